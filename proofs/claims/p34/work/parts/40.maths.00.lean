section
/-! MATHEMATICS, the base: small numbers, the functions' words, loops -/
def i32 (k : Nat) : Int32 := Int32.ofNat k
theorem i32_0 : (0 : Int32) = i32 0 := rfl
theorem i32_1 : (1 : Int32) = i32 1 := rfl
theorem i32_2 : (2 : Int32) = i32 2 := rfl
theorem i32_3 : (3 : Int32) = i32 3 := rfl
theorem i32_4 : (4 : Int32) = i32 4 := rfl
theorem i32_5 : (5 : Int32) = i32 5 := rfl
theorem i32_6 : (6 : Int32) = i32 6 := rfl
theorem i32_7 : (7 : Int32) = i32 7 := rfl
theorem i32_8 : (8 : Int32) = i32 8 := rfl
theorem i32_9 : (9 : Int32) = i32 9 := rfl
theorem i32_10 : (10 : Int32) = i32 10 := rfl
theorem i32_36 : (36 : Int32) = i32 36 := rfl
theorem i32_223 : (223 : Int32) = i32 223 := rfl
theorem i32_283 : (283 : Int32) = i32 283 := rfl
theorem i32_add {a b : Nat} : i32 a + i32 b = i32 (a + b) := (Int32.ofNat_add a b).symm
theorem i32_mul {a b : Nat} : i32 a * i32 b = i32 (a * b) := (Int32.ofNat_mul a b).symm
theorem i32_toInt {a : Nat} (h : a < 2 ^ 31) : (i32 a).toInt = a := Int32.toInt_ofNat_small h
theorem i32_cl {a : Nat} (h : a < 2 ^ 31) : (i32 a).toNatClampNeg = a := n32 h
theorem i32_le {a b : Nat} (ha : a < 2 ^ 31) (hb : b < 2 ^ 31) : (i32 a ≤ i32 b) = (a ≤ b) := by
  rw [Int32.le_iff_toInt_le, i32_toInt ha, i32_toInt hb]; simp
theorem i32_lt {a b : Nat} (ha : a < 2 ^ 31) (hb : b < 2 ^ 31) : (i32 a < i32 b) = (a < b) := by
  rw [Int32.lt_iff_toInt_lt, i32_toInt ha, i32_toInt hb]; simp
theorem i32_eq {a b : Nat} (ha : a < 2 ^ 31) (hb : b < 2 ^ 31) : (i32 a = i32 b) = (a = b) := by
  rw [← Int32.toInt_inj, i32_toInt ha, i32_toInt hb]; exact propext ⟨fun h => by omega, fun h => by omega⟩
theorem i_le {a b : Nat} (h : a ≤ b) (hb : b < 2 ^ 31) : i32 a ≤ i32 b := by rw [i32_le (by omega) hb]; exact h
theorem i_nle {a b : Nat} (h : b < a) (ha : a < 2 ^ 31) : ¬ i32 a ≤ i32 b := by rw [i32_le ha (by omega)]; omega
theorem i_lt {a b : Nat} (h : a < b) (hb : b < 2 ^ 31) : i32 a < i32 b := by rw [i32_lt (by omega) hb]; exact h
theorem i_nlt {a b : Nat} (h : b ≤ a) (ha : a < 2 ^ 31) : ¬ i32 a < i32 b := by rw [i32_lt ha (by omega)]; omega
theorem i_ne {a b : Nat} (h : a ≠ b) (ha : a < 2 ^ 31) (hb : b < 2 ^ 31) : ¬ i32 a = i32 b := by rw [i32_eq ha hb]; exact h
theorem i_ne0 {a : Nat} (h : a ≠ 0) (ha : a < 2 ^ 31) : ¬ i32 a = 0 := i_ne (b := 0) h ha (by decide)
theorem i_ne1 {a : Nat} (h : a ≠ 1) (ha : a < 2 ^ 31) : ¬ i32 a = 1 := i_ne (b := 1) h ha (by decide)
theorem i_ne2 {a : Nat} (h : a ≠ 2) (ha : a < 2 ^ 31) : ¬ i32 a = 2 := i_ne (b := 2) h ha (by decide)
theorem i32_sub {a b : Nat} (h : b ≤ a) : i32 a - i32 b = i32 (a - b) := by
  have e : i32 a = i32 (a - b) + i32 b := by rw [i32_add]; congr 1; omega
  rw [e, Int32.add_sub_cancel]
theorem i32_inb {a n : Nat} (h : a < n) (hn : n < 2 ^ 31) : inb (i32 a) n := vpin h hn
theorem i32_64 {a : Nat} (h : a < 2 ^ 31) : (i32 a).toInt64 = Int64.ofNat a := by
  rw [← Int64.toInt_inj, Int32.toInt_toInt64, i32_toInt h]
  symm
  rw [Int64.toInt_ofNat_of_lt (by omega)]
section WORDS
variable {α β : Type} {σ : Mem}
theorem e_gI {a n k : Nat} {f : Int32 → Option α} (hn : ln a = n) (h : k < n) (h2 : n < 2 ^ 31) : gI σ a (i32 k) f = f (σ.1 a k) := by
  unfold gI; rw [hn, if_pos (i32_inb h h2), i32_cl (by omega)]
theorem e_gL {a n k : Nat} {f : Int64 → Option α} (hn : ln a = n) (h : k < n) (h2 : n < 2 ^ 31) : gL σ a (i32 k) f = f (σ.2 a k) := by
  unfold gL; rw [hn, if_pos (i32_inb h h2), i32_cl (by omega)]
theorem e_gR {a n k : Nat} {f : Nat → Option α} (hn : ln a = n) (h : k < n) (h2 : n < 2 ^ 31) : gR a (i32 k) f = f (rf a k) := by
  unfold gR; rw [hn, if_pos (i32_inb h h2), i32_cl (by omega)]
theorem e_pI {a n k : Nat} {v : Int32} {f : Mem → Option α} (hn : ln a = n) (h : k < n) (h2 : n < 2 ^ 31) : pI σ a (i32 k) v f = f (wI σ a k v) := by
  unfold pI; rw [hn, if_pos (i32_inb h h2), i32_cl (by omega)]
theorem e_pL {a n k : Nat} {v : Int64} {f : Mem → Option α} (hn : ln a = n) (h : k < n) (h2 : n < 2 ^ 31) : pL σ a (i32 k) v f = f (wL σ a k v) := by
  unfold pL; rw [hn, if_pos (i32_inb h h2), i32_cl (by omega)]
theorem e_gF {a k : Nat} {f : Int32 → Option α} : gF σ a k f = f (σ.1 a k) := rfl
theorem e_pF {a k : Nat} {v : Int32} {f : Mem → Option α} : pF σ a k v f = f (wI σ a k v) := rfl
theorem e_bd {v : β} {f : β → Option α} : bd v f = f v := rfl
theorem e_bs {v : β} {f : β → Option α} : (some v).bind f = f v := rfl
theorem e_bq {r : β} {τ : Mem} {f : β → Mem → Option α} : bq (some (r, τ)) f = f r τ := rfl
theorem e_gZ {a k : Nat} {b : Bool} {f : Bool → Option α} (h : σ.1 a k = b2i b) : gZ σ a k f = f b := by
  unfold gZ; rw [h]; cases b <;> rfl
theorem e_rB {b : Bool} {f : Bool → Option α} : rB (b2i b) f = f b := by cases b <;> rfl
theorem e_nzL {y : Int64} {f : Option α} (h : y ≠ 0) : nzL y f = f := if_neg h
theorem e_nzI {y : Int32} {f : Option α} (h : y ≠ 0) : nzI y f = f := if_neg h
end WORDS
/-- a loop that counts -/
theorem loop_up {S X : Type} {body : S → Option (S ⊕ X)} (st : Nat → S) (a n : Nat) (x : X) (h : a ≤ n) (hs : ∀ k, a ≤ k → k < n → body (st k) = some (Sum.inl (st (k + 1)))) (he : body (st n) = some (Sum.inr x)) : loopO body (st a) = some x := by
  have key : ∀ d, d ≤ n - a → loopO body (st (n - d)) = some x := by
    intro d
    induction d with
    | zero =>
      intro _
      rw [Nat.sub_zero, loopO_eq, he]; rfl
    | succ d ih =>
      intro hd
      have hk : n - (d + 1) + 1 = n - d := by omega
      rw [loopO_eq, hs (n - (d + 1)) (by omega) (by omega), hk]
      exact ih (by omega)
  have := key (n - a) (Nat.le_refl _)
  rwa [show n - (n - a) = a by omega] at this
theorem loop_at {S X : Type} {body : S → Option (S ⊕ X)} {s0 : S} {x : X} (st : Nat → S) (a n : Nat) (h0 : st a = s0) (h : a ≤ n) (hs : ∀ k, a ≤ k → k < n → body (st k) = some (Sum.inl (st (k + 1)))) (he : body (st n) = some (Sum.inr x)) : loopO body s0 = some x := by
  subst h0; exact loop_up st a n x h hs he
/-- a loop that comes to an end with what is kept -/
theorem loop_inv {S X : Type} {body : S → Option (S ⊕ X)} (I : Nat → S → Prop) (Q : X → Prop) (hb : ∀ n s, I n s → (∃ s' n', n' < n ∧ body s = some (Sum.inl s') ∧ I n' s') ∨ (∃ x, body s = some (Sum.inr x) ∧ Q x)) : ∀ (n : Nat) (s : S), I n s → ∃ x, loopO body s = some x ∧ Q x := by
  intro n
  induction n using Nat.strongRecOn with
  | ind n ih =>
    intro s h
    rcases hb n s h with ⟨s', n', h1, h2, h3⟩ | ⟨x, h2, h3⟩
    · obtain ⟨x, h4, h5⟩ := ih n' h1 s' h3
      exact ⟨x, by rw [loopO_eq, h2]; exact h4, h5⟩
    · exact ⟨x, by rw [loopO_eq, h2]; rfl, h3⟩
/-! reading what was written -/
theorem wI_1 {σ : Mem} {a k : Nat} {v : Int32} {x y : Nat} : (wI σ a k v).1 x y = if x = a ∧ y = k then v else σ.1 x y := rfl
theorem wI_2 {σ : Mem} {a k : Nat} {v : Int32} : (wI σ a k v).2 = σ.2 := rfl
theorem wL_1 {σ : Mem} {a k : Nat} {v : Int64} : (wL σ a k v).1 = σ.1 := rfl
theorem wL_2 {σ : Mem} {a k : Nat} {v : Int64} {x y : Nat} : (wL σ a k v).2 x y = if x = a ∧ y = k then v else σ.2 x y := rfl
end
section
theorem ln_3 : ln 3 = 6 := by decide +kernel
theorem ln_4 : ln 4 = 216 := by decide +kernel
theorem ln_5 : ln 5 = 10 := by decide +kernel
theorem ln_6 : ln 6 = 6 := by decide +kernel
theorem ln_7 : ln 7 = 6 := by decide +kernel
theorem ln_8 : ln 8 = 6 := by decide +kernel
theorem ln_9 : ln 9 = 6 := by decide +kernel
theorem ln_10 : ln 10 = 6 := by decide +kernel
theorem ln_11 : ln 11 = 6 := by decide +kernel
theorem ln_12 : ln 12 = 6 := by decide +kernel
theorem ln_13 : ln 13 = 6 := by decide +kernel
theorem ln_14 : ln 14 = 6 := by decide +kernel
theorem ln_15 : ln 15 = 6 := by decide +kernel
theorem ln_16 : ln 16 = 8 := by decide +kernel
theorem ln_19 : ln 19 = 6 := by decide +kernel
theorem ln_20 : ln 20 = 216 := by decide +kernel
theorem ln_21 : ln 21 = 10 := by decide +kernel
theorem ln_22 : ln 22 = 6 := by decide +kernel
theorem ln_23 : ln 23 = 6 := by decide +kernel
theorem ln_24 : ln 24 = 6 := by decide +kernel
theorem ln_25 : ln 25 = 6 := by decide +kernel
theorem ln_26 : ln 26 = 6 := by decide +kernel
theorem ln_27 : ln 27 = 6 := by decide +kernel
theorem ln_28 : ln 28 = 6 := by decide +kernel
theorem ln_29 : ln 29 = 6 := by decide +kernel
theorem ln_30 : ln 30 = 6 := by decide +kernel
theorem ln_31 : ln 31 = 6 := by decide +kernel
theorem ln_32 : ln 32 = 8 := by decide +kernel
theorem ln_33 : ln 33 = 8 := by decide +kernel
theorem ln_34 : ln 34 = 200 := by decide +kernel
theorem ln_36 : ln 36 = 64 := by decide +kernel
theorem ln_37 : ln 37 = 12076 := by decide +kernel
theorem ln_38 : ln 38 = 12076 := by decide +kernel
theorem ln_39 : ln 39 = 6 := by decide +kernel
theorem ln_42 : ln 42 = 6 := by decide +kernel
theorem ln_43 : ln 43 = 216 := by decide +kernel
theorem ln_44 : ln 44 = 6 := by decide +kernel
theorem ln_45 : ln 45 = 12 := by decide +kernel
theorem ln_46 : ln 46 = 64 := by decide +kernel
theorem ln_47 : ln 47 = 6 := by decide +kernel
theorem ln_49 : ln 49 = 455 := by decide +kernel
theorem ln_50 : ln 50 = 455 := by decide +kernel
theorem ln_51 : ln 51 = 455 := by decide +kernel
theorem ln_53 : ln 53 = 455 := by decide +kernel
theorem ln_54 : ln 54 = 455 := by decide +kernel
theorem ln_55 : ln 55 = 455 := by decide +kernel
theorem ln_57 : ln 57 = 455 := by decide +kernel
theorem ln_58 : ln 58 = 455 := by decide +kernel
theorem ln_59 : ln 59 = 455 := by decide +kernel
theorem ln_61 : ln 61 = 455 := by decide +kernel
theorem ln_62 : ln 62 = 455 := by decide +kernel
theorem ln_63 : ln 63 = 455 := by decide +kernel
theorem ln_65 : ln 65 = 455 := by decide +kernel
theorem ln_66 : ln 66 = 455 := by decide +kernel
theorem ln_67 : ln 67 = 455 := by decide +kernel
theorem ln_69 : ln 69 = 455 := by decide +kernel
theorem ln_70 : ln 70 = 455 := by decide +kernel
theorem ln_71 : ln 71 = 455 := by decide +kernel
theorem ln_73 : ln 73 = 64 := by decide +kernel
theorem ln_74 : ln 74 = 64 := by decide +kernel
theorem ln_75 : ln 75 = 6 := by decide +kernel
theorem ln_76 : ln 76 = 6 := by decide +kernel
theorem ln_77 : ln 77 = 6 := by decide +kernel
theorem ln_78 : ln 78 = 6 := by decide +kernel
theorem ln_79 : ln 79 = 6 := by decide +kernel
theorem ln_82 : ln 82 = 6 := by decide +kernel
theorem ln_83 : ln 83 = 6 := by decide +kernel
theorem ln_84 : ln 84 = 6 := by decide +kernel
theorem ln_85 : ln 85 = 6 := by decide +kernel
theorem ln_86 : ln 86 = 6 := by decide +kernel
theorem ln_87 : ln 87 = 6 := by decide +kernel
theorem ln_88 : ln 88 = 6 := by decide +kernel
theorem ln_89 : ln 89 = 6 := by decide +kernel
theorem ln_91 : ln 91 = 6 := by decide +kernel
theorem ln_92 : ln 92 = 6 := by decide +kernel
theorem ln_93 : ln 93 = 6 := by decide +kernel
theorem ln_94 : ln 94 = 6 := by decide +kernel
theorem ln_95 : ln 95 = 6 := by decide +kernel
theorem ln_96 : ln 96 = 6 := by decide +kernel
theorem ln_97 : ln 97 = 6 := by decide +kernel
theorem ln_98 : ln 98 = 6 := by decide +kernel
theorem ln_99 : ln 99 = 6 := by decide +kernel
theorem ln_100 : ln 100 = 64 := by decide +kernel
theorem ln_101 : ln 101 = 6 := by decide +kernel
theorem ln_102 : ln 102 = 6 := by decide +kernel
theorem ln_103 : ln 103 = 6 := by decide +kernel
theorem ln_105 : ln 105 = 455 := by decide +kernel
theorem ln_106 : ln 106 = 455 := by decide +kernel
theorem ln_107 : ln 107 = 455 := by decide +kernel
theorem ln_109 : ln 109 = 455 := by decide +kernel
theorem ln_110 : ln 110 = 455 := by decide +kernel
theorem ln_111 : ln 111 = 455 := by decide +kernel
theorem ln_113 : ln 113 = 455 := by decide +kernel
theorem ln_114 : ln 114 = 455 := by decide +kernel
theorem ln_115 : ln 115 = 455 := by decide +kernel
theorem ln_117 : ln 117 = 455 := by decide +kernel
theorem ln_118 : ln 118 = 455 := by decide +kernel
theorem ln_119 : ln 119 = 455 := by decide +kernel
theorem ln_121 : ln 121 = 455 := by decide +kernel
theorem ln_122 : ln 122 = 455 := by decide +kernel
theorem ln_123 : ln 123 = 455 := by decide +kernel
theorem ln_125 : ln 125 = 455 := by decide +kernel
theorem ln_126 : ln 126 = 455 := by decide +kernel
theorem ln_127 : ln 127 = 455 := by decide +kernel
theorem ln_129 : ln 129 = 5 := by decide +kernel
theorem ln_130 : ln 130 = 6006 := by decide +kernel
theorem ln_131 : ln 131 = 4096 := by decide +kernel
theorem ln_132 : ln 132 = 6 := by decide +kernel
theorem ln_133 : ln 133 = 6 := by decide +kernel
theorem ln_134 : ln 134 = 6 := by decide +kernel
theorem ln_136 : ln 136 = 6 := by decide +kernel
theorem ln_137 : ln 137 = 6 := by decide +kernel
theorem ln_138 : ln 138 = 6 := by decide +kernel
theorem ln_139 : ln 139 = 6 := by decide +kernel
theorem ln_140 : ln 140 = 6 := by decide +kernel
theorem ln_141 : ln 141 = 6 := by decide +kernel
theorem ln_142 : ln 142 = 6 := by decide +kernel
theorem ln_143 : ln 143 = 6 := by decide +kernel
theorem ln_145 : ln 145 = 9 := by decide +kernel
theorem ln_146 : ln 146 = 6 := by decide +kernel
theorem ln_147 : ln 147 = 6 := by decide +kernel
theorem ln_148 : ln 148 = 6 := by decide +kernel
theorem ln_149 : ln 149 = 6 := by decide +kernel
theorem ln_150 : ln 150 = 6 := by decide +kernel
theorem ln_151 : ln 151 = 6 := by decide +kernel
theorem ln_152 : ln 152 = 6 := by decide +kernel
theorem ln_153 : ln 153 = 6 := by decide +kernel
theorem ln_154 : ln 154 = 6 := by decide +kernel
theorem ln_155 : ln 155 = 9 := by decide +kernel
theorem ln_156 : ln 156 = 6 := by decide +kernel
theorem ln_157 : ln 157 = 6 := by decide +kernel
theorem ln_158 : ln 158 = 6 := by decide +kernel
theorem ln_159 : ln 159 = 6 := by decide +kernel
theorem ln_160 : ln 160 = 6 := by decide +kernel
theorem ln_161 : ln 161 = 6 := by decide +kernel
theorem ln_162 : ln 162 = 6 := by decide +kernel
theorem ln_163 : ln 163 = 6 := by decide +kernel
theorem ln_164 : ln 164 = 6 := by decide +kernel
theorem ln_165 : ln 165 = 9 := by decide +kernel
theorem ln_166 : ln 166 = 6 := by decide +kernel
theorem ln_167 : ln 167 = 6 := by decide +kernel
theorem ln_168 : ln 168 = 6 := by decide +kernel
theorem ln_169 : ln 169 = 6 := by decide +kernel
theorem ln_170 : ln 170 = 6 := by decide +kernel
theorem ln_171 : ln 171 = 6 := by decide +kernel
theorem ln_172 : ln 172 = 6 := by decide +kernel
theorem ln_173 : ln 173 = 6 := by decide +kernel
theorem ln_174 : ln 174 = 6 := by decide +kernel
theorem ln_175 : ln 175 = 200 := by decide +kernel
theorem ln_176 : ln 176 = 6 := by decide +kernel
theorem ln_177 : ln 177 = 6 := by decide +kernel
theorem ln_180 : ln 180 = 6 := by decide +kernel
theorem ln_181 : ln 181 = 216 := by decide +kernel
theorem ln_182 : ln 182 = 10 := by decide +kernel
theorem ln_183 : ln 183 = 6 := by decide +kernel
theorem ln_184 : ln 184 = 6 := by decide +kernel
theorem ln_185 : ln 185 = 6 := by decide +kernel
theorem ln_186 : ln 186 = 6 := by decide +kernel
theorem ln_187 : ln 187 = 6 := by decide +kernel
theorem ln_188 : ln 188 = 6 := by decide +kernel
theorem ln_189 : ln 189 = 6 := by decide +kernel
theorem ln_190 : ln 190 = 6 := by decide +kernel
theorem ln_191 : ln 191 = 6 := by decide +kernel
theorem ln_192 : ln 192 = 6 := by decide +kernel
theorem ln_193 : ln 193 = 8 := by decide +kernel
theorem ln_196 : ln 196 = 6 := by decide +kernel
theorem ln_197 : ln 197 = 216 := by decide +kernel
theorem ln_198 : ln 198 = 10 := by decide +kernel
theorem ln_199 : ln 199 = 6 := by decide +kernel
theorem ln_200 : ln 200 = 6 := by decide +kernel
theorem ln_201 : ln 201 = 6 := by decide +kernel
theorem ln_202 : ln 202 = 6 := by decide +kernel
theorem ln_203 : ln 203 = 6 := by decide +kernel
theorem ln_204 : ln 204 = 6 := by decide +kernel
theorem ln_205 : ln 205 = 6 := by decide +kernel
theorem ln_206 : ln 206 = 6 := by decide +kernel
theorem ln_207 : ln 207 = 6 := by decide +kernel
theorem ln_208 : ln 208 = 6 := by decide +kernel
theorem ln_209 : ln 209 = 8 := by decide +kernel
theorem ln_212 : ln 212 = 6 := by decide +kernel
theorem ln_213 : ln 213 = 216 := by decide +kernel
theorem ln_214 : ln 214 = 10 := by decide +kernel
theorem ln_215 : ln 215 = 6 := by decide +kernel
theorem ln_216 : ln 216 = 6 := by decide +kernel
theorem ln_217 : ln 217 = 6 := by decide +kernel
theorem ln_218 : ln 218 = 6 := by decide +kernel
theorem ln_219 : ln 219 = 6 := by decide +kernel
theorem ln_220 : ln 220 = 6 := by decide +kernel
theorem ln_221 : ln 221 = 6 := by decide +kernel
theorem ln_222 : ln 222 = 6 := by decide +kernel
theorem ln_223 : ln 223 = 6 := by decide +kernel
theorem ln_224 : ln 224 = 6 := by decide +kernel
theorem ln_225 : ln 225 = 8 := by decide +kernel
theorem ln_228 : ln 228 = 6 := by decide +kernel
theorem ln_229 : ln 229 = 216 := by decide +kernel
theorem ln_230 : ln 230 = 10 := by decide +kernel
theorem ln_231 : ln 231 = 6 := by decide +kernel
theorem ln_232 : ln 232 = 6 := by decide +kernel
theorem ln_233 : ln 233 = 6 := by decide +kernel
theorem ln_234 : ln 234 = 6 := by decide +kernel
theorem ln_235 : ln 235 = 6 := by decide +kernel
theorem ln_236 : ln 236 = 6 := by decide +kernel
theorem ln_237 : ln 237 = 6 := by decide +kernel
theorem ln_238 : ln 238 = 6 := by decide +kernel
theorem ln_239 : ln 239 = 6 := by decide +kernel
theorem ln_240 : ln 240 = 6 := by decide +kernel
theorem ln_241 : ln 241 = 8 := by decide +kernel
theorem ln_244 : ln 244 = 6 := by decide +kernel
theorem ln_245 : ln 245 = 216 := by decide +kernel
theorem ln_246 : ln 246 = 10 := by decide +kernel
theorem ln_247 : ln 247 = 6 := by decide +kernel
theorem ln_248 : ln 248 = 6 := by decide +kernel
theorem ln_249 : ln 249 = 6 := by decide +kernel
theorem ln_250 : ln 250 = 6 := by decide +kernel
theorem ln_251 : ln 251 = 6 := by decide +kernel
theorem ln_252 : ln 252 = 6 := by decide +kernel
theorem ln_253 : ln 253 = 6 := by decide +kernel
theorem ln_254 : ln 254 = 6 := by decide +kernel
theorem ln_255 : ln 255 = 6 := by decide +kernel
theorem ln_256 : ln 256 = 6 := by decide +kernel
theorem ln_257 : ln 257 = 8 := by decide +kernel
theorem ln_260 : ln 260 = 6 := by decide +kernel
theorem ln_261 : ln 261 = 216 := by decide +kernel
theorem ln_262 : ln 262 = 10 := by decide +kernel
theorem ln_263 : ln 263 = 6 := by decide +kernel
theorem ln_264 : ln 264 = 6 := by decide +kernel
theorem ln_265 : ln 265 = 6 := by decide +kernel
theorem ln_266 : ln 266 = 6 := by decide +kernel
theorem ln_267 : ln 267 = 6 := by decide +kernel
theorem ln_268 : ln 268 = 6 := by decide +kernel
theorem ln_269 : ln 269 = 6 := by decide +kernel
theorem ln_270 : ln 270 = 6 := by decide +kernel
theorem ln_271 : ln 271 = 6 := by decide +kernel
theorem ln_272 : ln 272 = 6 := by decide +kernel
theorem ln_273 : ln 273 = 8 := by decide +kernel
theorem ln_276 : ln 276 = 6 := by decide +kernel
theorem ln_277 : ln 277 = 216 := by decide +kernel
theorem ln_278 : ln 278 = 10 := by decide +kernel
theorem ln_279 : ln 279 = 6 := by decide +kernel
theorem ln_280 : ln 280 = 6 := by decide +kernel
theorem ln_281 : ln 281 = 6 := by decide +kernel
theorem ln_282 : ln 282 = 6 := by decide +kernel
theorem ln_283 : ln 283 = 6 := by decide +kernel
theorem ln_284 : ln 284 = 6 := by decide +kernel
theorem ln_285 : ln 285 = 6 := by decide +kernel
theorem ln_286 : ln 286 = 6 := by decide +kernel
theorem ln_287 : ln 287 = 6 := by decide +kernel
theorem ln_288 : ln 288 = 6 := by decide +kernel
theorem ln_289 : ln 289 = 8 := by decide +kernel
theorem ln_292 : ln 292 = 6 := by decide +kernel
theorem ln_293 : ln 293 = 216 := by decide +kernel
theorem ln_294 : ln 294 = 10 := by decide +kernel
theorem ln_295 : ln 295 = 6 := by decide +kernel
theorem ln_296 : ln 296 = 6 := by decide +kernel
theorem ln_297 : ln 297 = 6 := by decide +kernel
theorem ln_298 : ln 298 = 6 := by decide +kernel
theorem ln_299 : ln 299 = 6 := by decide +kernel
theorem ln_300 : ln 300 = 6 := by decide +kernel
theorem ln_301 : ln 301 = 6 := by decide +kernel
theorem ln_302 : ln 302 = 6 := by decide +kernel
theorem ln_303 : ln 303 = 6 := by decide +kernel
theorem ln_304 : ln 304 = 6 := by decide +kernel
theorem ln_305 : ln 305 = 8 := by decide +kernel
theorem ln_307 : ln 307 = 283 := by decide +kernel
theorem ln_308 : ln 308 = 2264 := by decide +kernel
theorem ln_309 : ln 309 = 16000 := by decide +kernel
theorem ln_310 : ln 310 = 6 := by decide +kernel
theorem ln_311 : ln 311 = 6 := by decide +kernel
theorem ln_312 : ln 312 = 54600 := by decide +kernel
theorem ln_313 : ln 313 = 600 := by decide +kernel
theorem ln_314 : ln 314 = 6 := by decide +kernel
theorem ln_315 : ln 315 = 12 := by decide +kernel
theorem ln_316 : ln 316 = 12 := by decide +kernel
theorem ln_317 : ln 317 = 200 := by decide +kernel
theorem ln_318 : ln 318 = 6 := by decide +kernel
theorem ln_319 : ln 319 = 6006 := by decide +kernel
theorem ln_320 : ln 320 = 360 := by decide +kernel
theorem ln_321 : ln 321 = 18 := by decide +kernel
theorem ln_322 : ln 322 = 72 := by decide +kernel
theorem ln_323 : ln 323 = 300 := by decide +kernel
end
section
/-! the reference's rows: places of six longs in its row 313 -/
def vec (σ : Mem) (s : Nat) : Nat → Int64 := fun i => σ.2 313 (6 * s + i)
/-- a place's six longs -/
def setV (σ : Mem) (s : Nat) (v : Nat → Int64) : Mem := (σ.1, fun x y => if x = 313 ∧ 6 * s ≤ y ∧ y < 6 * s + 6 then v (y - 6 * s) else σ.2 x y)
theorem setV_1 {σ : Mem} {s : Nat} {v : Nat → Int64} : (setV σ s v).1 = σ.1 := rfl
theorem setV_2 {σ : Mem} {s : Nat} {v : Nat → Int64} {x y : Nat} (h : x ≠ 313) : (setV σ s v).2 x y = σ.2 x y := if_neg (fun q => h q.1)
theorem setV_self {σ : Mem} {s i : Nat} {v : Nat → Int64} (h : i < 6) : vec (setV σ s v) s i = v i := by
  show (if 313 = 313 ∧ 6 * s ≤ 6 * s + i ∧ 6 * s + i < 6 * s + 6 then v (6 * s + i - 6 * s) else _) = v i
  rw [if_pos ⟨rfl, by omega, by omega⟩]; congr 1; omega
theorem setV_ne {σ : Mem} {s r i : Nat} {v : Nat → Int64} (h : i < 6) (hr : r ≠ s) : vec (setV σ s v) r i = vec σ r i := by
  show (if 313 = 313 ∧ 6 * s ≤ 6 * r + i ∧ 6 * r + i < 6 * s + 6 then _ else _) = _
  rw [if_neg (by omega)]; rfl
theorem setV_congr {σ : Mem} {s : Nat} {v u : Nat → Int64} (h : ∀ i, i < 6 → v i = u i) : setV σ s v = setV σ s u := by
  unfold setV
  refine Prod.ext rfl ?_
  funext x y
  show (if _ then _ else _) = (if _ then _ else _)
  split
  · exact h _ (by omega)
  · rfl
theorem setV_id {σ : Mem} {s : Nat} : setV σ s (vec σ s) = σ := by
  unfold setV vec
  refine Prod.ext rfl ?_
  funext x y
  show (if _ then _ else _) = _
  split
  · rename_i h; rw [h.1, show 6 * s + (y - 6 * s) = y by omega]
  · rfl
theorem setV_setV {σ : Mem} {s : Nat} {v u : Nat → Int64} : setV (setV σ s v) s u = setV σ s u := by
  unfold setV
  refine Prod.ext rfl ?_
  funext x y
  show (if _ then _ else if _ then _ else _) = (if _ then _ else _)
  split <;> rfl
def upv (v : Nat → Int64) (i : Nat) (x : Int64) : Nat → Int64 := fun k => if k = i then x else v k
theorem wL_setV {σ : Mem} {s i : Nat} {v : Nat → Int64} {x : Int64} (h : i < 6) : wL (setV σ s v) 313 (6 * s + i) x = setV σ s (upv v i x) := by
  unfold setV wL upv
  refine Prod.ext rfl ?_
  funext a y
  show (if _ then _ else if _ then _ else _) = (if _ then (if _ then _ else _) else _)
  by_cases h1 : a = 313 ∧ y = 6 * s + i
  · rw [if_pos h1, if_pos ⟨h1.1, by omega, by omega⟩, if_pos (by omega)]
  · rw [if_neg h1]
    by_cases h2 : a = 313 ∧ 6 * s ≤ y ∧ y < 6 * s + 6
    · rw [if_pos h2, if_pos h2, if_neg (by omega)]
    · rw [if_neg h2, if_neg h2]
theorem wL_vec {σ : Mem} {s i : Nat} {x : Int64} (h : i < 6) : wL σ 313 (6 * s + i) x = setV σ s (upv (vec σ s) i x) := by
  have := wL_setV (σ := σ) (s := s) (v := vec σ s) (x := x) h
  rwa [setV_id] at this
theorem e_of {σ : Mem} {s i : Nat} (hs : s < 100) (hi : i < 6) : f_X11_of σ (i32 s) (i32 i) = some (vec σ s i) := by
  unfold f_X11_of
  rw [i32_6, i32_mul, i32_add, e_gL ln_313 (by omega) (by omega)]; rfl
theorem e_puts {σ : Mem} {s i : Nat} {x : Int64} (hs : s < 100) (hi : i < 6) : f_X11_puts σ (i32 s) (i32 i) x = some (setV σ s (upv (vec σ s) i x)) := by
  unfold f_X11_puts
  rw [i32_6, i32_mul, i32_add, e_pL ln_313 (by omega) (by omega), wL_vec hi]
def pv (f v : Nat → Int64) (k : Nat) : Nat → Int64 := fun i => if i < k then f i else v i
theorem pv_0 {f v : Nat → Int64} : pv f v 0 = v := funext (fun i => if_neg (Nat.not_lt_zero i))
theorem pv_step {f v : Nat → Int64} {k : Nat} : upv (pv f v k) k (f k) = pv f v (k + 1) := by
  funext i
  unfold upv pv
  by_cases h1 : i = k
  · subst h1; rw [if_pos rfl, if_pos (Nat.lt_succ_self i)]
  · rw [if_neg h1]
    by_cases h2 : i < k
    · rw [if_pos h2, if_pos (by omega)]
    · rw [if_neg h2, if_neg (by omega)]
theorem pv_6 {σ : Mem} {s : Nat} {f v : Nat → Int64} : setV σ s (pv f v 6) = setV σ s f := setV_congr (fun i hi => if_pos hi)
theorem upv_congr {v u : Nat → Int64} {i : Nat} {x : Int64} {σ : Mem} {s : Nat} (h : ∀ k, k < 6 → v k = u k) : setV σ s (upv v i x) = setV σ s (upv u i x) := setV_congr (fun k hk => by
  unfold upv
  by_cases h1 : k = i
  · rw [if_pos h1, if_pos h1]
  · rw [if_neg h1, if_neg h1, h k hk])
/-- a write into a place that was written -/
theorem e_puts2 {σ : Mem} {s i : Nat} {v : Nat → Int64} {x : Int64} (hs : s < 100) (hi : i < 6) : f_X11_puts (setV σ s v) (i32 s) (i32 i) x = some (setV σ s (upv v i x)) := by
  rw [e_puts hs hi, setV_setV]
  congr 1
  exact upv_congr (fun k hk => setV_self hk)
theorem e_of2 {σ : Mem} {s i : Nat} {v : Nat → Int64} (hs : s < 100) (hi : i < 6) : f_X11_of (setV σ s v) (i32 s) (i32 i) = some (v i) := by
  rw [e_of hs hi, setV_self hi]
theorem e_of3 {σ : Mem} {s r i : Nat} {v : Nat → Int64} (hr : r < 100) (hi : i < 6) (h : r ≠ s) : f_X11_of (setV σ s v) (i32 r) (i32 i) = some (vec σ r i) := by
  rw [e_of hr hi, setV_ne hi h]
theorem e_ones {σ : Mem} {s : Nat} (hs : s < 100) : f_X11_ones σ (i32 s) = some (setV σ s (fun _ => 0)) := by
  unfold f_X11_ones
  refine loop_at (fun k => (setV σ s (pv (fun _ => 0) (vec σ s) k), i32 k)) 0 6 (by rw [pv_0, setV_id]; rfl) (by omega) (fun k _ hk => ?_) ?_
  · show l_X11_ones_2 _ _ _ = _
    unfold l_X11_ones_2
    rw [i32_6, if_neg (i_nle hk (by omega)), e_puts2 hs hk, e_bs, i32_1, i32_add, ← pv_step]
  · show l_X11_ones_2 _ _ _ = _
    unfold l_X11_ones_2
    rw [i32_6, if_pos (i_le (Nat.le_refl 6) (by omega)), pv_6]
theorem e_copies {σ : Mem} {s r : Nat} (hs : s < 100) (hr : r < 100) (hne : s ≠ r) : f_X11_copies σ (i32 s) (i32 r) = some (setV σ r (vec σ s)) := by
  unfold f_X11_copies
  refine loop_at (fun k => (setV σ r (pv (vec σ s) (vec σ r) k), i32 k)) 0 6 (by rw [pv_0, setV_id]; rfl) (by omega) (fun k _ hk => ?_) ?_
  · show l_X11_copies_2 _ _ _ _ = _
    unfold l_X11_copies_2
    rw [i32_6, if_neg (i_nle hk (by omega)), e_of3 hs hk hne, e_bs, e_puts2 hr hk, e_bs, i32_1, i32_add, ← pv_step]
  · show l_X11_copies_2 _ _ _ _ = _
    unfold l_X11_copies_2
    rw [i32_6, if_pos (i_le (Nat.le_refl 6) (by omega)), pv_6]
/-! the group in the reference's row 307 -/
/-- how many generators, weights, tails, registers' exponents -/
def mN (σ : Mem) (n : Nat) : Prop := σ.1 307 0 = i32 n
/-- the group's numbers: generators from 0, weights, tails -/
abbrev GD : Type := Nat × (Nat → Nat) × (Nat → Nat → Nat → Nat)
abbrev gn (G : GD) : Nat := G.1
abbrev gw (G : GD) : Nat → Nat := G.2.1
abbrev gt (G : GD) : Nat → Nat → Nat → Nat := G.2.2
/-- what is a group's numbers -/
def GOK (G : GD) : Prop := 1 ≤ gn G ∧ gn G ≤ 6 ∧ (∀ i, i < gn G → 1 ≤ gw G i ∧ gw G i ≤ 3) ∧ (∀ i j, i ≤ j → j < gn G → gw G i ≤ gw G j) ∧ (∀ i, gn G ≤ i → gw G i = 0) ∧ (∀ j i k, gt G j i k ≤ 3) ∧ (∀ j i k, gt G j i k ≠ 0 → i < j ∧ j < k ∧ k < gn G ∧ gw G i + gw G j ≤ gw G k)
/-- the reference holds G -/
def MG (σ : Mem) (G : GD) : Prop := σ.1 307 0 = i32 (gn G) ∧ (∀ i, i < 6 → σ.1 307 (1 + i) = i32 (gw G i)) ∧ (∀ j i k, j < 6 → i < 6 → k < 6 → σ.1 307 (7 + 36 * j + 6 * i + k) = i32 (gt G j i k))
theorem MG.setV {σ : Mem} {G : GD} {s : Nat} {v : Nat → Int64} (h : MG σ G) : MG (setV σ s v) G := h
theorem e_n {σ : Mem} {G : GD} (h : MG σ G) : f_X11_n σ = some (i32 (gn G)) := by
  unfold f_X11_n
  rw [i32_0, e_gI ln_307 (by omega) (by omega), h.1]
theorem e_weight {σ : Mem} {G : GD} (h : MG σ G) {i : Nat} (hi : i < 6) : f_X11_weight σ (i32 i) = some (i32 (gw G i)) := by
  unfold f_X11_weight
  rw [i32_1, i32_add, e_gI ln_307 (by omega) (by omega), h.2.1 i hi]
theorem e_tail {σ : Mem} {G : GD} (h : MG σ G) {j i k : Nat} (hj : j < 6) (hi : i < 6) (hk : k < 6) : f_X11_tail σ (i32 j) (i32 i) (i32 k) = some (i32 (gt G j i k)) := by
  unfold f_X11_tail
  rw [i32_7, i32_36, i32_6, i32_mul, i32_mul, i32_add, i32_add, i32_add, e_gI ln_307 (by omega) (by omega), h.2.2 j i k hj hi hk]
theorem e_two {σ : Mem} {y : Int64} : f_X11_two σ y = some (y * (y - 1) / 2) := e_nzL (by decide)
/-- an element less nothing, times so many letters i that pass j of weight two -/
def pTwo (G : GD) (j i : Nat) (x : Int64) (v : Nat → Int64) : Nat → Int64 := fun m => if j < m ∧ m < gn G then v m + Int64.ofNat (gt G j i m) * x else v m
theorem e_passesTwo {σ : Mem} {G : GD} (h : MG σ G) (hG : GOK G) {s j i : Nat} {x : Int64} (hs : s < 100) (hj : j < gn G) (hi : i < 6) : f_X11_passesTwo σ (i32 s) (i32 j) (i32 i) x = some (setV σ s (pTwo G j i x (vec σ s))) := by
  have hn := hG.2.1
  unfold f_X11_passesTwo
  rw [e_bd, i32_1, i32_add]
  have hp : ∀ k, pTwo G j i x (vec σ s) k = if j < k ∧ k < gn G then vec σ s k + Int64.ofNat (gt G j i k) * x else vec σ s k := fun k => rfl
  refine loop_at (fun k => (setV σ s (pv (pTwo G j i x (vec σ s)) (vec σ s) k), i32 k)) (j + 1) (gn G) ?_ (by omega) (fun k hk1 hk => ?_) ?_
  · refine Prod.ext ?_ rfl
    show setV σ s _ = σ
    refine (setV_congr (fun i hi => ?_)).trans setV_id
    unfold pv
    by_cases h1 : i < j + 1
    · rw [if_pos h1, hp, if_neg (by omega)]
    · rw [if_neg h1]
  · show l_X11_passesTwo_5 _ _ _ _ _ _ = _
    unfold l_X11_passesTwo_5
    rw [e_n (h.setV), e_bs, if_neg (i_nle hk (by omega)), e_of2 hs (by omega), e_bs, e_tail (h.setV) (by omega) hi (by omega), e_bs, e_puts2 hs (by omega), e_bs, i32_1, i32_add, ← pv_step, hp, if_pos ⟨hk1, hk⟩, i32_64 (by have := hG.2.2.2.2.2.1 j i k; omega)]
    congr 4
    unfold pv
    rw [if_neg (Nat.lt_irrefl k)]
  · show l_X11_passesTwo_5 _ _ _ _ _ _ = _
    unfold l_X11_passesTwo_5
    rw [e_n (h.setV), e_bs, if_pos (i_le (Nat.le_refl _) (by omega))]
    congr 2
    refine setV_congr (fun i hi => ?_)
    unfold pv
    by_cases h1 : i < gn G
    · rw [if_pos h1]
    · rw [if_neg h1, hp, if_neg (by omega)]
end
section
/-! a letter's power behind an element: the closed form in whole numbers -/
def oi (x : Int) : Int64 := Int64.ofInt x
theorem oi_add {a b : Int} : oi a + oi b = oi (a + b) := (Int64.ofInt_add a b).symm
theorem oi_sub {a b : Int} : oi a - oi b = oi (a - b) := (Int64.ofInt_sub a b).symm
theorem oi_mul {a b : Int} : oi a * oi b = oi (a * b) := (Int64.ofInt_mul a b).symm
theorem oi_neg {a : Int} : -oi a = oi (-a) := (Int64.ofInt_neg a).symm
theorem oi_nat {a : Nat} : Int64.ofNat a = oi (a : Int) := rfl
theorem oi_toInt {x : Int} (h1 : -2 ^ 63 ≤ x) (h2 : x < 2 ^ 63) : (oi x).toInt = x := Int64.toInt_ofInt_of_le h1 h2
def two (x : Int) : Int := x * (x - 1) / 2
theorem two_ok {x : Int} (h1 : -2 ^ 31 ≤ x) (h2 : x ≤ 2 ^ 31) : oi x * (oi x - 1) / 2 = oi (two x) := by
  have e1 : (1 : Int64) = oi 1 := rfl
  have e2 : (2 : Int64) = oi 2 := rfl
  rw [e1, e2, oi_sub, oi_mul]
  have hp : 0 ≤ x * (x - 1) := by
    by_cases h : 1 ≤ x
    · exact Int.mul_nonneg (by omega) (by omega)
    · have := Int.mul_nonneg (show 0 ≤ -x by omega) (show 0 ≤ -(x - 1) by omega)
      rwa [Int.neg_mul_neg] at this
  have hb : x * (x - 1) ≤ 2 ^ 62 + 2 ^ 31 := by
    by_cases h : 1 ≤ x
    · have := Int.mul_le_mul (a := x) (b := x - 1) (c := 2 ^ 31) (d := 2 ^ 31) h2 (by omega) (by omega) (by omega)
      omega
    · have h3 := Int.mul_le_mul (a := -x) (b := -(x - 1)) (c := 2 ^ 31) (d := 2 ^ 31 + 1) (by omega) (by omega) (by omega) (by omega)
      rw [Int.neg_mul_neg] at h3
      omega
  unfold two
  rw [← Int64.toInt_inj, Int64.toInt_div, oi_toInt (by omega) (by omega), oi_toInt (by omega) (by omega), oi_toInt (by omega) (by omega), Int.tdiv_eq_ediv_of_nonneg hp]
  apply Int.bmod_eq_of_le <;> omega
/-- sums -/
def sm (f : Nat → Int) : Nat → Int
  | 0 => 0
  | n + 1 => sm f n + f n
theorem sm_congr {f g : Nat → Int} {n : Nat} (h : ∀ k, k < n → f k = g k) : sm f n = sm g n := by
  induction n with
  | zero => rfl
  | succ n ih => simp only [sm]; rw [ih (fun k hk => h k (by omega)), h n (Nat.lt_succ_self n)]
abbrev tI (G : GD) (j i k : Nat) : Int := (gt G j i k : Int)
/-- what is behind two letters: by k, at m -/
def behind (G : GD) (a : Nat → Int) (j i : Nat) (y : Int) (k m : Nat) : Int :=
  tI G k i m * a j * two y + tI G k j m * y * two (a j) + sm (fun q => if j < q ∧ gw G q = 1 then a j * y * tI G k q m * a q else 0) (gn G)
def passOne (G : GD) (a : Nat → Int) (j i : Nat) (y : Int) (m : Nat) : Int :=
  tI G j i m * a j * y + sm (fun k => tI G j i k * behind G a j i y k m) (gn G)
def TL (G : GD) (a : Nat → Int) (i : Nat) (y : Int) (m : Nat) : Int :=
  a m + (if m = i then y else 0) + (if gw G i = 1 then
    sm (fun j => if i < j ∧ gw G j = 2 then tI G j i m * (a j * y) else if i < j ∧ gw G j = 1 then passOne G a j i y m else 0) (gn G) else 0)
def mulU (G : GD) (a b : Nat → Int) : Nat → (Nat → Int)
  | 0 => a
  | n + 1 => TL G (mulU G a b n) n (b n)
def mul (G : GD) (a b : Nat → Int) : Nat → Int := mulU G a b (gn G)
def rowL (σ : Mem) (a : Nat) (f : Nat → Int64) : Mem := (σ.1, fun x y => if x = a then f y else σ.2 x y)
theorem rowL_self {σ : Mem} {a : Nat} {f : Nat → Int64} {y : Nat} : (rowL σ a f).2 a y = f y := if_pos rfl
theorem rowL_ne {σ : Mem} {a b : Nat} {f : Nat → Int64} (h : b ≠ a) : (rowL σ a f).2 b = σ.2 b := funext (fun _ => if_neg h)
theorem rowL_id {σ : Mem} {a : Nat} : rowL σ a (σ.2 a) = σ := by
  refine Prod.ext rfl ?_
  funext x y
  show (if x = a then _ else _) = _
  split
  · rename_i h; rw [h]
  · rfl
theorem wL_rowL {σ : Mem} {a k : Nat} {f : Nat → Int64} {v : Int64} : wL (rowL σ a f) a k v = rowL σ a (upv f k v) := by
  refine Prod.ext rfl ?_
  funext x y
  show (if _ then _ else if _ then _ else _) = if _ then upv f k v y else _
  unfold upv
  by_cases h : x = a
  · rw [if_pos h, if_pos h]
    by_cases h2 : y = k
    · rw [if_pos ⟨h, h2⟩, if_pos h2]
    · rw [if_neg (fun q => h2 q.2), if_neg h2]
  · rw [if_neg (fun q => h q.1), if_neg h, if_neg h]
/-- what comes later to the letters, beside the elements -/
def mrow (σ : Mem) (M : Nat → Int) : Nat → Int64 := fun y => if y < 6 then oi (M y) else σ.2 314 y
def moreM (σ : Mem) (M : Nat → Int) : Mem := rowL σ 314 (mrow σ M)
def up (M : Nat → Int) (m : Nat) (x : Int) : Nat → Int := fun k => if k = m then M k + x else M k
theorem upv_mrow {σ : Mem} {M : Nat → Int} {m : Nat} {x : Int} (h : m < 6) : upv (mrow σ M) m (oi (M m + x)) = mrow σ (up M m x) := by
  funext y
  unfold upv mrow up
  by_cases h1 : y = m
  · subst h1; rw [if_pos rfl, if_pos h, if_pos rfl]
  · rw [if_neg h1]
    by_cases h2 : y < 6
    · rw [if_pos h2, if_pos h2, if_neg h1]
    · rw [if_neg h2, if_neg h2]
theorem e_getM {σ : Mem} {M : Nat → Int} {m : Nat} {α : Type} {f : Int64 → Option α} (h : m < 6) : gL (moreM σ M) 314 (i32 m) f = f (oi (M m)) := by
  rw [e_gL ln_314 h (by omega)]
  show f ((rowL σ 314 _).2 314 m) = _
  rw [rowL_self]
  unfold mrow
  rw [if_pos h]
theorem e_putM {σ : Mem} {M : Nat → Int} {m : Nat} {x : Int} {v : Int64} {α : Type} {f : Mem → Option α} (h : m < 6) (hv : v = oi (M m + x)) : pL (moreM σ M) 314 (i32 m) v f = f (moreM σ (up M m x)) := by
  rw [e_pL ln_314 h (by omega)]
  unfold moreM
  rw [wL_rowL, hv, upv_mrow h]
theorem moreM_vec {σ : Mem} {M : Nat → Int} {s : Nat} : vec (moreM σ M) s = vec σ s := by
  unfold vec moreM
  rw [rowL_ne (by omega)]
theorem moreM_MG {σ : Mem} {M : Nat → Int} {G : GD} (h : MG σ G) : MG (moreM σ M) G := h
theorem tl64 {G : GD} (hG : GOK G) {j i k : Nat} : (i32 (gt G j i k)).toInt64 = oi (tI G j i k) := by
  rw [i32_64 (by have := hG.2.2.2.2.2.1 j i k; omega)]; rfl
theorem sm_tail {f : Nat → Int} {e n : Nat} (h : e ≤ n) (hz : ∀ k, e ≤ k → k < n → f k = 0) : sm f n = sm f e := by
  induction n with
  | zero => rw [show e = 0 by omega]
  | succ n ih =>
    by_cases h1 : e = n + 1
    · rw [h1]
    · simp only [sm]
      rw [ih (by omega) (fun k h2 h3 => hz k h2 (by omega)), hz n (by omega) (Nat.lt_succ_self n), Int.add_zero]
theorem sm_zero {f : Nat → Int} {n : Nat} (hz : ∀ k, k < n → f k = 0) : sm f n = 0 := sm_tail (e := 0) (Nat.zero_le n) (fun k _ h => hz k h)
theorem up_up {M : Nat → Int} {m : Nat} {x y : Int} : up (up M m x) m y = up M m (x + y) := by
  funext k
  unfold up
  by_cases h : k = m
  · rw [if_pos h, if_pos h, if_pos h, Int.add_assoc]
  · rw [if_neg h, if_neg h, if_neg h]
theorem up_0 {M : Nat → Int} {m : Nat} : up M m 0 = M := by
  funext k
  unfold up
  split
  · rw [Int.add_zero]
  · rfl
/-- where the letters of a weight end -/
theorem ones_end {G : GD} (hG : GOK G) (c : Nat) (a : Nat) (ha : a ≤ gn G) (hlow : ∀ q, a ≤ q → q < gn G → c ≤ gw G q) : ∃ e, a ≤ e ∧ e ≤ gn G ∧ (∀ q, a ≤ q → q < e → gw G q = c) ∧ (∀ q, e ≤ q → q < gn G → gw G q ≠ c) := by
  have key : ∀ d a, d = gn G - a → a ≤ gn G → (∀ q, a ≤ q → q < gn G → c ≤ gw G q) → ∃ e, a ≤ e ∧ e ≤ gn G ∧ (∀ q, a ≤ q → q < e → gw G q = c) ∧ (∀ q, e ≤ q → q < gn G → gw G q ≠ c) := by
    intro d
    induction d with
    | zero => intro a h1 h2 h3; exact ⟨a, Nat.le_refl a, h2, fun q h4 h5 => by omega, fun q h4 h5 => by omega⟩
    | succ d ih =>
      intro a h1 h2 h3
      by_cases hw : gw G a = c
      · obtain ⟨e, e1, e2, e3, e4⟩ := ih (a + 1) (by omega) (by omega) (fun q h4 h5 => h3 q (by omega) h5)
        refine ⟨e, by omega, e2, fun q h4 h5 => ?_, e4⟩
        by_cases h6 : q = a
        · rw [h6]; exact hw
        · exact e3 q (by omega) h5
      · refine ⟨a, Nat.le_refl a, h2, fun q h4 h5 => by omega, fun q h4 h5 h6 => ?_⟩
        have h7 := h3 a (Nat.le_refl a) (by omega)
        have h8 := hG.2.2.2.1 a q h4 h5
        omega
  exact key _ a rfl ha hlow
/-- the letters of weight one behind j -/
theorem e_pOne157 {σ : Mem} {G : GD} (h : MG σ G) (hG : GOK G) {a : Nat → Int} {s j k m : Nat} {y : Int} {t : Nat} {M : Nat → Int} (hs : s < 100) (hv : ∀ i, i < 6 → vec σ s i = oi (a i)) (hj : j < gn G) (hj1 : gw G j = 1) (hk : k < 6) (hm : m < 6) (ht : t ≤ 3) :
    loopO (fun (z24 : Mem × Int32) => l_X11_passesOne_157 (i32 s) (oi y) (oi (a j)) (i32 k) (i32 t) (i32 m) z24.1 z24.2) (moreM σ M, i32 (j + 1)) = some (moreM σ (up M m (sm (fun q => if j < q ∧ gw G q = 1 then (t : Int) * a j * y * tI G k q m * a q else 0) (gn G)))) := by
  have hn := hG.2.1
  obtain ⟨e, e1, e2, e3, e4⟩ := ones_end hG 1 (j + 1) (by omega) (fun q _ h2 => (hG.2.2.1 q h2).1)
  generalize hf : (fun q => if j < q ∧ gw G q = 1 then (t : Int) * a j * y * tI G k q m * a q else 0) = f
  have hfq : ∀ q, f q = if j < q ∧ gw G q = 1 then (t : Int) * a j * y * tI G k q m * a q else 0 := fun q => by rw [← hf]
  refine loop_at (fun k => (moreM σ (up M m (sm f k)), i32 k)) (j + 1) e ?_ e1 (fun q h1 h2 => ?_) ?_
  · rw [sm_zero (fun q hq => by rw [hfq, if_neg (by omega)]), up_0]
  · show l_X11_passesOne_157 _ _ _ _ _ _ _ _ = _
    unfold l_X11_passesOne_157
    rw [e_n (moreM_MG h), e_bs, if_neg (i_nle (by omega) (by omega)), e_weight (moreM_MG h) (by omega), e_bs, e3 q h1 h2, if_pos i32_1.symm, e_getM hm, e_tail (moreM_MG h) hk (by omega) hm, e_bs, e_of hs (by omega), e_bs, moreM_vec, hv q (by omega), tl64 hG]
    rw [e_putM (x := f q) hm ?_]
    · rw [i32_1, i32_add, up_up]; rfl
    · have ht64 : (i32 t).toInt64 = oi (t : Int) := by rw [i32_64 (by omega)]; rfl
      rw [ht64, oi_mul, oi_mul, oi_mul, oi_mul, oi_add, hfq, if_pos ⟨by omega, e3 q h1 h2⟩]
  · show l_X11_passesOne_157 _ _ _ _ _ _ _ _ = _
    unfold l_X11_passesOne_157
    rw [sm_tail e2 (fun q h1 h2 => by rw [hfq, if_neg (fun h3 => e4 q h1 h2 h3.2)])]
    rw [e_n (moreM_MG h), e_bs]
    by_cases he : e = gn G
    · rw [if_pos (i_le (by omega) (by omega))]
    · rw [if_neg (i_nle (by omega) (by omega)), e_weight (moreM_MG h) (by omega), e_bs, if_neg (i_ne1 (e4 e (Nat.le_refl e) (by omega)) (by have := (hG.2.2.1 e (by omega)).2; omega))]
def two64ok (x : Int) : Prop := -2 ^ 31 ≤ x ∧ x ≤ 2 ^ 31
theorem sm_mul {c : Int} {f : Nat → Int} {n : Nat} : c * sm f n = sm (fun k => c * f k) n := by
  induction n with
  | zero => exact Int.mul_zero c
  | succ n ih => simp only [sm]; rw [Int.mul_add, ih]
theorem sm_add {f g : Nat → Int} {n : Nat} : sm f n + sm g n = sm (fun k => f k + g k) n := by
  induction n with
  | zero => rfl
  | succ n ih => simp only [sm]; rw [← ih]; omega
/-- at k, behind two letters: all m -/
theorem e_pOne83 {σ : Mem} {G : GD} (h : MG σ G) (hG : GOK G) {a : Nat → Int} {s j i k : Nat} {y : Int} {M : Nat → Int} (hs : s < 100) (hv : ∀ i, i < 6 → vec σ s i = oi (a i)) (hj : j < gn G) (hj1 : gw G j = 1) (hi : i < 6) (hk : k < gn G) (hy : two64ok y) (ha : two64ok (a j)) :
    loopO (fun (z13 : Mem × Int32) => l_X11_passesOne_83 (i32 s) (i32 j) (i32 i) (oi y) (oi (a j)) (i32 k) (i32 (gt G j i k)) z13.1 z13.2) (moreM σ M, i32 (k + 1)) = some (moreM σ (fun m => if k < m ∧ m < gn G then M m + tI G j i k * behind G a j i y k m else M m)) := by
  have hn := hG.2.1
  have ht := hG.2.2.2.2.2.1 j i k
  refine loop_at (fun q => (moreM σ (fun m => if k < m ∧ m < q then M m + tI G j i k * behind G a j i y k m else M m), i32 q)) (k + 1) (gn G) ?_ (by omega) (fun m h1 h2 => ?_) ?_
  · congr 2
    funext m
    rw [if_neg (by omega)]
  · show l_X11_passesOne_83 _ _ _ _ _ _ _ _ _ = _
    unfold l_X11_passesOne_83
    rw [e_n (moreM_MG h), e_bs, if_neg (i_nle h2 (by omega)), e_getM (by omega), e_tail (moreM_MG h) (by omega) hi (by omega), e_bs, e_two, e_bs, e_tail (moreM_MG h) (by omega) (by omega) (by omega), e_bs, e_two, e_bs]
    rw [two_ok hy.1 hy.2, two_ok ha.1 ha.2, tl64 hG, tl64 hG, tl64 hG]
    rw [e_putM (x := tI G j i k * (tI G k i m * a j * two y + tI G k j m * y * two (a j))) (by omega) (by simp only [oi_mul, oi_add])]
    rw [e_bd, i32_1, i32_add, e_pOne157 h hG hs hv hj hj1 (by omega) (by omega) ht, e_bs]
    unfold j_X11_passesOne_226
    rw [i32_1, i32_add]
    congr 4
    funext q
    rw [up_up]
    unfold up behind
    dsimp only
    by_cases hq : q = m
    · subst hq
      rw [if_pos rfl, if_neg (by omega), if_pos ⟨by omega, by omega⟩]
      have e1 : sm (fun q_1 => if j < q_1 ∧ gw G q_1 = 1 then (↑(gt G j i k) : Int) * a j * y * tI G k q_1 q * a q_1 else 0) (gn G) = tI G j i k * sm (fun q_1 => if j < q_1 ∧ gw G q_1 = 1 then a j * y * tI G k q_1 q * a q_1 else 0) (gn G) := by
        rw [sm_mul]
        refine sm_congr (fun z _ => ?_)
        by_cases hz : j < z ∧ gw G z = 1
        · rw [if_pos hz, if_pos hz]; simp only [Int.mul_assoc]
        · rw [if_neg hz, if_neg hz, Int.mul_zero]
      rw [e1, ← Int.mul_add]
    · rw [if_neg hq]
      by_cases h5 : k < q ∧ q < m
      · rw [if_pos h5, if_pos ⟨h5.1, by omega⟩]
      · rw [if_neg h5, if_neg (by omega)]
  · show l_X11_passesOne_83 _ _ _ _ _ _ _ _ _ = _
    unfold l_X11_passesOne_83
    rw [e_n (moreM_MG h), e_bs, if_pos (i_le (Nat.le_refl _) (by omega))]
theorem behind_0 {G : GD} (hG : GOK G) {a : Nat → Int} {j i k m : Nat} {y : Int} (h : m ≤ k ∨ gn G ≤ m ∨ 2 < gw G k) : tI G j i k * behind G a j i y k m = 0 := by
  have hz : ∀ q, gt G k q m = 0 ∨ gt G j i k = 0 := by
    intro q
    by_cases h1 : gt G k q m = 0
    · exact Or.inl h1
    · refine Or.inr ?_
      have h2 := hG.2.2.2.2.2.2 k q m h1
      rcases h with h | h | h
      · omega
      · omega
      · have h3 := (hG.2.2.1 q (by omega)).1
        have h4 := (hG.2.2.1 m (by omega)).2
        omega
  by_cases ht : gt G j i k = 0
  · unfold tI; rw [ht]; exact Int.zero_mul _
  · have hz2 : ∀ q, tI G k q m = 0 := fun q => by
      unfold tI
      rcases hz q with h1 | h1
      · rw [h1]; rfl
      · exact absurd h1 ht
    unfold behind
    rw [hz2, hz2, sm_zero (fun q _ => by rw [hz2]; split <;> simp)]
    simp
theorem e_passesOne {σ : Mem} {G : GD} (h : MG σ G) (hG : GOK G) {a : Nat → Int} {s j i : Nat} {y : Int} {M : Nat → Int} (hs : s < 100) (hv : ∀ i, i < 6 → vec σ s i = oi (a i)) (hj : j < gn G) (hj1 : gw G j = 1) (hi : i < 6) (hy : two64ok y) (ha : two64ok (a j)) :
    f_X11_passesOne (moreM σ M) (i32 s) (i32 j) (i32 i) (oi y) = some (moreM σ (fun m => M m + passOne G a j i y m)) := by
  have hn := hG.2.1
  unfold f_X11_passesOne
  rw [e_of hs (by omega), e_bs, moreM_vec, hv j (by omega), e_bd, i32_1, i32_add]
  -- what is there ahead of k
  generalize hS : (fun (k m : Nat) => M m + ((if m < k ∧ j < m then tI G j i m * a j * y else 0) + sm (fun k => tI G j i k * behind G a j i y k m) k)) = F
  have hF : ∀ k m, F k m = M m + ((if m < k ∧ j < m then tI G j i m * a j * y else 0) + sm (fun k => tI G j i k * behind G a j i y k m) k) := fun k m => by rw [← hS]
  have ht0 : ∀ k, k ≤ j → tI G j i k = 0 := fun k hk => by
    unfold tI
    by_cases h1 : gt G j i k = 0
    · rw [h1]; rfl
    · have := hG.2.2.2.2.2.2 j i k h1; omega
  have htn : ∀ k, gn G ≤ k → tI G j i k = 0 := fun k hk => by
    unfold tI
    by_cases h1 : gt G j i k = 0
    · rw [h1]; rfl
    · have := hG.2.2.2.2.2.2 j i k h1; omega
  refine loop_at (fun k => (moreM σ (F k), i32 k)) (j + 1) (gn G) ?_ (by omega) (fun k h1 h2 => ?_) ?_
  · congr 2
    funext m
    rw [hF, if_neg (by omega), sm_zero (fun k hk => by rw [ht0 k (by omega)]; exact Int.zero_mul _)]
    omega
  · show l_X11_passesOne_13 _ _ _ _ _ _ _ = _
    unfold l_X11_passesOne_13
    rw [e_n (moreM_MG h), e_bs, if_neg (i_nle h2 (by omega)), e_tail (moreM_MG h) (by omega) hi (by omega), e_bs]
    have ht := hG.2.2.2.2.2.1 j i k
    have fin : ∀ m, F (k + 1) m = up (F k) k (tI G j i k * a j * y) m + tI G j i k * behind G a j i y k m := by
      intro m
      unfold up
      rw [hF, hF]
      simp only [sm]
      by_cases hm : m = k
      · subst hm
        rw [if_pos rfl, if_pos ⟨by omega, by omega⟩, if_neg (by omega)]
        omega
      · rw [if_neg hm]
        by_cases h3 : m < k ∧ j < m
        · rw [if_pos h3, if_pos ⟨by omega, h3.2⟩]; omega
        · rw [if_neg h3, if_neg (by omega)]; omega
    by_cases h0 : gt G j i k = 0
    · rw [h0, if_pos i32_0.symm, e_bs]
      unfold j_X11_passesOne_232
      rw [i32_1, i32_add]
      have hz : tI G j i k = 0 := by unfold tI; rw [h0]; rfl
      have e9 : F (k + 1) = F k := funext (fun m => by rw [fin, hz, Int.zero_mul, Int.zero_mul, Int.zero_mul, up_0, Int.add_zero])
      rw [e9]
    · rw [if_neg (i_ne0 h0 (by omega)), e_getM (by omega), tl64 hG, oi_mul, oi_mul, oi_add, e_putM (by omega) rfl, e_weight (moreM_MG h) (by omega), e_bs]
      by_cases hw : gw G k ≤ 2
      · rw [if_pos (show i32 (gw G k) ≤ 2 from i_le (b := 2) hw (by decide)), e_bd, i32_1, i32_add, e_pOne83 h hG hs hv hj hj1 hi h2 hy ha, e_bs]
        unfold j_X11_passesOne_232
        rw [i32_1, i32_add]
        congr 4
        funext m
        rw [fin]
        by_cases h3 : k < m ∧ m < gn G
        · rw [if_pos h3]
        · rw [if_neg h3, behind_0 hG (by omega), Int.add_zero]
      · rw [if_neg (show ¬ i32 (gw G k) ≤ 2 from i_nle (b := 2) (by omega) (by have := (hG.2.2.1 k h2).2; omega)), e_bs]
        unfold j_X11_passesOne_232
        rw [i32_1, i32_add]
        congr 4
        funext m
        rw [fin, behind_0 hG (by omega), Int.add_zero]
  · show l_X11_passesOne_13 _ _ _ _ _ _ _ = _
    unfold l_X11_passesOne_13
    have e9 : F (gn G) = fun m => M m + passOne G a j i y m := by
      funext m
      rw [hF]
      unfold passOne
      by_cases h3 : m < gn G ∧ j < m
      · rw [if_pos h3]
      · rw [if_neg h3]
        have hz : tI G j i m = 0 := by
          by_cases h4 : m ≤ j
          · exact ht0 m h4
          · exact htn m (by omega)
        rw [hz, Int.zero_mul, Int.zero_mul]
    rw [e_n (moreM_MG h), e_bs, if_pos (i_le (Nat.le_refl _) (by omega)), ← e9]
end
section
/-! a letter's power, and products, by the reference -/
/-- a place that holds whole numbers -/
def setI (σ : Mem) (s : Nat) (a : Nat → Int) : Mem := setV σ s (fun i => oi (a i))
def M0 (σ : Mem) : Prop := ∀ m, m < 6 → σ.2 314 m = 0
theorem M0.more {σ : Mem} (h : M0 σ) : moreM σ (fun _ => 0) = σ := by
  unfold moreM
  have e : mrow σ (fun _ => 0) = σ.2 314 := by
    funext y
    unfold mrow
    split
    · rename_i hy; rw [h y hy]; rfl
    · rfl
  rw [e, rowL_id]
theorem M0.setI {σ : Mem} {s : Nat} {a : Nat → Int} (h : M0 σ) : M0 (setI σ s a) := fun m hm => (setV_2 (by omega)).trans (h m hm)
theorem setI_vec {σ : Mem} {s i : Nat} {a : Nat → Int} (h : i < 6) : vec (setI σ s a) s i = oi (a i) := setV_self h
theorem setI_ne {σ : Mem} {s r i : Nat} {a : Nat → Int} (h : i < 6) (hr : r ≠ s) : vec (setI σ s a) r i = vec σ r i := setV_ne h hr
theorem setI_congr {σ : Mem} {s : Nat} {a b : Nat → Int} (h : ∀ i, i < 6 → a i = b i) : setI σ s a = setI σ s b := setV_congr (fun i hi => by rw [h i hi])
theorem setI_setI {σ : Mem} {s : Nat} {a b : Nat → Int} : setI (setI σ s a) s b = setI σ s b := setV_setV
theorem setI_id {σ : Mem} {s : Nat} {a : Nat → Int} (h : ∀ i, i < 6 → vec σ s i = oi (a i)) : setI σ s a = σ := by
  unfold setI
  rw [setV_congr (u := vec σ s) (fun i hi => (h i hi).symm), setV_id]
theorem setI_MG {σ : Mem} {G : GD} {s : Nat} {a : Nat → Int} (h : MG σ G) : MG (setI σ s a) G := h
/-- the letters of weight two, first -/
def tlTwo (G : GD) (a : Nat → Int) (i : Nat) (y : Int) (m : Nat) : Int := a m + sm (fun j => if i < j ∧ gw G j = 2 then tI G j i m * (a j * y) else 0) (gn G)
theorem tI_0 {G : GD} (hG : GOK G) {j i m : Nat} (h : ¬ (i < j ∧ j < m ∧ m < gn G ∧ gw G i + gw G j ≤ gw G m)) : tI G j i m = 0 := by
  unfold tI
  by_cases h1 : gt G j i m = 0
  · rw [h1]; rfl
  · exact absurd (hG.2.2.2.2.2.2 j i m h1) h
/-- the letters of weight two do not move what is of weight two at most -/
theorem tlTwo_low {G : GD} (hG : GOK G) {a : Nat → Int} {i m : Nat} {y : Int} (hi : i < gn G) (hm : gw G m ≤ 2) : tlTwo G a i y m = a m := by
  unfold tlTwo
  rw [sm_zero, Int.add_zero]
  intro j _
  by_cases h : i < j ∧ gw G j = 2
  · rw [if_pos h, tI_0 hG (by have := (hG.2.2.1 i hi).1; omega), Int.zero_mul]
  · rw [if_neg h]
theorem e_tl21 {σ : Mem} {G : GD} (h : MG σ G) (hG : GOK G) {a : Nat → Int} {s i : Nat} {y : Int} (hs : s < 100) (hi : i < gn G) (hv : ∀ i, i < 6 → vec σ s i = oi (a i)) :
    loopO (fun (z22 : Mem × Int32) => l_X11_timesLetter_21 (i32 s) (i32 i) (oi y) z22.1 z22.2) (σ, i32 (i + 1)) = some (setI σ s (tlTwo G a i y)) := by
  have hn := hG.2.1
  -- where weight three begins
  have hend : ∃ e, i + 1 ≤ e ∧ e ≤ gn G ∧ (∀ q, i + 1 ≤ q → q < e → gw G q < 3) ∧ (∀ q, e ≤ q → q < gn G → 3 ≤ gw G q) := by
    have key : ∀ d b, d = gn G - b → b ≤ gn G → ∃ e, b ≤ e ∧ e ≤ gn G ∧ (∀ q, b ≤ q → q < e → gw G q < 3) ∧ (∀ q, e ≤ q → q < gn G → 3 ≤ gw G q) := by
      intro d
      induction d with
      | zero => intro b h1 h2; exact ⟨b, Nat.le_refl b, h2, fun q h4 h5 => by omega, fun q h4 h5 => by omega⟩
      | succ d ih =>
        intro b h1 h2
        by_cases hw : gw G b < 3
        · obtain ⟨e, e1, e2, e3, e4⟩ := ih (b + 1) (by omega) (by omega)
          refine ⟨e, by omega, e2, fun q h4 h5 => ?_, e4⟩
          by_cases h6 : q = b
          · rw [h6]; exact hw
          · exact e3 q (by omega) h5
        · refine ⟨b, Nat.le_refl b, h2, fun q h4 h5 => by omega, fun q h4 h5 => ?_⟩
          have h8 := hG.2.2.2.1 b q h4 h5
          omega
    exact key _ (i + 1) rfl (by omega)
  obtain ⟨e, e1, e2, e3, e4⟩ := hend
  generalize hf : (fun (m j : Nat) => if i < j ∧ gw G j = 2 then tI G j i m * (a j * y) else 0) = f
  have hfm : ∀ m j, f m j = if i < j ∧ gw G j = 2 then tI G j i m * (a j * y) else 0 := fun m j => by rw [← hf]
  refine loop_at (fun k => (setI σ s (fun m => a m + sm (f m) k), i32 k)) (i + 1) e ?_ e1 (fun j h1 h2 => ?_) ?_
  · rw [setI_id]
    intro q hq
    rw [hv q hq, sm_zero (fun j hj => by rw [hfm, if_neg (by omega)]), Int.add_zero]
  · show l_X11_timesLetter_21 _ _ _ _ _ = _
    unfold l_X11_timesLetter_21
    have hw3 := e3 j h1 h2
    have hj0 : sm (f j) j = 0 := sm_zero (fun q hq => by
      rw [hfm]
      by_cases h5 : i < q ∧ gw G q = 2
      · rw [if_pos h5, tI_0 hG (by have := (hG.2.2.1 i hi).1; omega), Int.zero_mul]
      · rw [if_neg h5])
    rw [e_n (setI_MG h), e_bs, if_neg (i_nle (by omega) (by omega)), e_weight (setI_MG h) (by omega), e_bs, if_neg (show ¬ 3 ≤ i32 (gw G j) from i_nle (a := 3) (by omega) (by decide)), e_of hs (by omega), e_bs, setI_vec (by omega), e_bs, hj0, Int.add_zero]
    by_cases hw : gw G j = 2
    · rw [hw, if_pos i32_2.symm, oi_mul, e_passesTwo (setI_MG h) hG hs (by omega) (by omega), e_bs, e_bs]
      unfold j_X11_timesLetter_71
      rw [i32_1, i32_add]
      have e9 : setV (setI σ s (fun m => a m + sm (f m) j)) s (pTwo G j i (oi (a j * y)) (vec (setI σ s (fun m => a m + sm (f m) j)) s)) = setI σ s (fun m => a m + sm (f m) (j + 1)) := by
        unfold setI
        rw [setV_setV]
        refine setV_congr (fun m hm => ?_)
        unfold pTwo
        have e8 : vec (setV σ s (fun i => oi (a i + sm (f i) j))) s m = oi (a m + sm (f m) j) := setV_self hm
        simp only [sm]
        by_cases h6 : j < m ∧ m < gn G
        · rw [if_pos h6, e8, oi_nat, oi_mul, oi_add, hfm, if_pos ⟨by omega, hw⟩]
          rw [Int.add_assoc]
        · rw [if_neg h6, e8, hfm, if_pos ⟨by omega, hw⟩, tI_0 hG (by omega), Int.zero_mul, Int.add_zero]
      rw [e9]
    · rw [if_neg (i_ne2 hw (by omega)), e_bs]
      unfold j_X11_timesLetter_71
      rw [i32_1, i32_add]
      have e9 : (fun m => a m + sm (f m) (j + 1)) = (fun m => a m + sm (f m) j) := by
        funext m
        simp only [sm]
        rw [hfm, if_neg (fun q => hw q.2), Int.add_zero]
      rw [e9]
  · show l_X11_timesLetter_21 _ _ _ _ _ = _
    unfold l_X11_timesLetter_21
    have e9 : setI σ s (fun m => a m + sm (f m) e) = setI σ s (tlTwo G a i y) := by
      refine setI_congr (fun m _ => ?_)
      unfold tlTwo
      rw [show (fun j => if i < j ∧ gw G j = 2 then tI G j i m * (a j * y) else 0) = f m by rw [← hf], sm_tail (f := f m) e2 (fun q h1 h2 => by rw [hfm, if_neg (fun h3 => by have := e4 q h1 h2; omega)])]
    rw [e_n (setI_MG h), e_bs]
    by_cases he : e = gn G
    · rw [if_pos (i_le (by omega) (by omega)), ← e9]
    · rw [if_neg (i_nle (by omega) (by omega)), e_weight (setI_MG h) (by omega), e_bs, if_pos (show 3 ≤ i32 (gw G e) from i_le (a := 3) (e4 e (Nat.le_refl e) (by omega)) (by have := (hG.2.2.1 e (by omega)).2; omega)), ← e9]
theorem moreM_setV {σ : Mem} {s : Nat} {v : Nat → Int64} {M : Nat → Int} : setV (moreM σ M) s v = moreM (setV σ s v) M := by
  unfold moreM rowL setV mrow
  refine Prod.ext rfl ?_
  funext x y
  show (if x = 313 ∧ 6 * s ≤ y ∧ y < 6 * s + 6 then _ else if x = 314 then _ else _) = (if x = 314 then _ else if x = 313 ∧ 6 * s ≤ y ∧ y < 6 * s + 6 then _ else _)
  by_cases h1 : x = 314
  · rw [if_neg (by omega), if_pos h1, if_pos h1]
    show (if y < 6 then _ else σ.2 314 y) = (if y < 6 then _ else (if 314 = 313 ∧ 6 * s ≤ y ∧ y < 6 * s + 6 then v (y - 6 * s) else σ.2 314 y))
    rw [if_neg (show ¬ (314 = 313 ∧ 6 * s ≤ y ∧ y < 6 * s + 6) by omega)]
  · rw [if_neg h1, if_neg h1]
theorem e_tl91 {σ : Mem} {G : GD} (h : MG σ G) (hG : GOK G) {a : Nat → Int} {s i : Nat} {y : Int} (hs : s < 100) (hi : i < gn G) (hv : ∀ i, i < 6 → vec σ s i = oi (a i)) (h0 : M0 σ) (hy : two64ok y) (ha : ∀ j, j < gn G → gw G j = 1 → two64ok (a j)) :
    loopO (fun (z16 : Mem × Int32) => l_X11_timesLetter_91 (i32 s) (i32 i) (oi y) z16.1 z16.2) (σ, i32 (i + 1)) = some (moreM σ (fun m => sm (fun j => if i < j ∧ gw G j = 1 then passOne G a j i y m else 0) (gn G))) := by
  have hn := hG.2.1
  obtain ⟨e, e1, e2, e3, e4⟩ := ones_end hG 1 (i + 1) (by omega) (fun q _ h2 => (hG.2.2.1 q h2).1)
  generalize hf : (fun (m j : Nat) => if i < j ∧ gw G j = 1 then passOne G a j i y m else 0) = f
  have hfm : ∀ m j, f m j = if i < j ∧ gw G j = 1 then passOne G a j i y m else 0 := fun m j => by rw [← hf]
  refine loop_at (fun k => (moreM σ (fun m => sm (f m) k), i32 k)) (i + 1) e ?_ e1 (fun j h1 h2 => ?_) ?_
  · have e9 : (fun m => sm (f m) (i + 1)) = fun _ => 0 := funext (fun m => sm_zero (fun j hj => by rw [hfm, if_neg (by omega)]))
    rw [e9, h0.more]
  · show l_X11_timesLetter_91 _ _ _ _ _ = _
    unfold l_X11_timesLetter_91
    have hw := e3 j h1 h2
    rw [e_n (moreM_MG h), e_bs, if_neg (i_nle (by omega) (by omega)), e_weight (moreM_MG h) (by omega), e_bs, hw, if_pos i32_1.symm, e_passesOne h hG hs hv (by omega) hw (by omega) hy (ha j (by omega) hw), e_bs, i32_1, i32_add]
    have e9 : (fun m => sm (f m) (j + 1)) = fun m => sm (f m) j + passOne G a j i y m := funext (fun m => by
      simp only [sm]
      rw [hfm, if_pos ⟨by omega, hw⟩])
    rw [e9]
  · show l_X11_timesLetter_91 _ _ _ _ _ = _
    unfold l_X11_timesLetter_91
    have e9 : (fun m => sm (f m) e) = fun m => sm (fun j => if i < j ∧ gw G j = 1 then passOne G a j i y m else 0) (gn G) := funext (fun m => by
      rw [show (fun j => if i < j ∧ gw G j = 1 then passOne G a j i y m else 0) = f m by rw [← hf], sm_tail (f := f m) e2 (fun q h1 h2 => by rw [hfm, if_neg (fun h3 => e4 q h1 h2 h3.2)])])
    rw [e_n (moreM_MG h), e_bs]
    by_cases he : e = gn G
    · rw [if_pos (i_le (by omega) (by omega)), ← e9]
    · rw [if_neg (i_nle (by omega) (by omega)), e_weight (moreM_MG h) (by omega), e_bs, if_neg (i_ne1 (e4 e (Nat.le_refl e) (by omega)) (by have := (hG.2.2.1 e (by omega)).2; omega)), ← e9]
theorem e_tl128 {σ : Mem} {a : Nat → Int} {s : Nat} {M : Nat → Int} (hs : s < 100) (hv : ∀ i, i < 6 → vec σ s i = oi (a i)) (h0 : M0 σ) :
    loopO (fun (z10 : Mem × Int32) => l_X11_timesLetter_128 (i32 s) z10.1 z10.2) (moreM σ M, 0) = some (setI σ s (fun m => a m + M m)) := by
  refine loop_at (fun k => (moreM (setI σ s (fun i => if i < k then a i + M i else a i)) (fun m => if m < k then 0 else M m), i32 k)) 0 6 ?_ (by omega) (fun k _ hk => ?_) ?_
  · refine Prod.ext ?_ rfl
    show moreM (setI σ s _) _ = moreM σ M
    rw [setI_id (σ := σ) (fun i hi => by rw [hv i hi, if_neg (Nat.not_lt_zero i)])]
    congr 1
  · show l_X11_timesLetter_128 _ _ _ = _
    unfold l_X11_timesLetter_128
    rw [i32_6, if_neg (i_nle hk (by omega)), e_of hs hk, e_bs, moreM_vec, setI_vec hk, e_getM hk, if_neg (Nat.lt_irrefl k), if_neg (Nat.lt_irrefl k), oi_add, e_puts hs hk, e_bs, moreM_vec, moreM_setV]
    have e8 : setV (setI σ s (fun i => if i < k then a i + M i else a i)) s (upv (vec (setI σ s (fun i => if i < k then a i + M i else a i)) s) k (oi (a k + M k))) = setI σ s (fun i => if i < k + 1 then a i + M i else a i) := by
      unfold setI
      rw [setV_setV]
      refine setV_congr (fun i hi => ?_)
      unfold upv
      dsimp only
      by_cases h1 : i = k
      · subst h1; rw [if_pos rfl, if_pos (Nat.lt_succ_self i)]
      · rw [if_neg h1]
        have e7 : vec (setV σ s (fun i => oi (if i < k then a i + M i else a i))) s i = oi (if i < k then a i + M i else a i) := setV_self hi
        rw [e7]
        by_cases h2 : i < k
        · rw [if_pos h2, if_pos (by omega)]
        · rw [if_neg h2, if_neg (by omega)]
    rw [e8, e_putM (x := -M k) hk (by rw [if_neg (Nat.lt_irrefl k), Int.add_right_neg]; rfl), i32_1, i32_add]
    have e6 : up (fun m => if m < k then 0 else M m) k (-M k) = fun m => if m < k + 1 then 0 else M m := by
      funext m
      unfold up
      dsimp only
      by_cases h1 : m = k
      · subst h1; rw [if_pos rfl, if_neg (Nat.lt_irrefl m), if_pos (Nat.lt_succ_self m), Int.add_right_neg]
      · rw [if_neg h1]
        by_cases h2 : m < k
        · rw [if_pos h2, if_pos (by omega)]
        · rw [if_neg h2, if_neg (by omega)]
    rw [e6]
  · show l_X11_timesLetter_128 _ _ _ = _
    unfold l_X11_timesLetter_128
    rw [i32_6, if_pos (i_le (Nat.le_refl 6) (by omega))]
    have e5 : moreM (setI σ s (fun i => if i < 6 then a i + M i else a i)) (fun m => if m < 6 then 0 else M m) = setI σ s (fun m => a m + M m) := by
      rw [setI_congr (b := fun m => a m + M m) (fun i hi => if_pos hi)]
      have e4 : moreM (setI σ s (fun m => a m + M m)) (fun m => if m < 6 then 0 else M m) = moreM (setI σ s (fun m => a m + M m)) (fun _ => 0) := by
        unfold moreM
        congr 1
        funext y
        unfold mrow
        by_cases hy : y < 6
        · rw [if_pos hy, if_pos hy]; dsimp only; rw [if_pos hy]
        · rw [if_neg hy, if_neg hy]
      rw [e4, h0.setI.more]
    rw [e5]
theorem oi_ne0 {y : Int} (h : y ≠ 0) (hy : two64ok y) : ¬ oi y = 0 := fun q => h (by
  have h1 : (oi y).toInt = y := oi_toInt (by have := hy.1; omega) (by have := hy.2; omega)
  rw [q] at h1
  exact h1.symm.trans (by decide))
theorem two_0 : two 0 = 0 := by decide
theorem TL_0 {G : GD} {a : Nat → Int} {i : Nat} : TL G a i 0 = a := by
  funext m
  unfold TL
  have e1 : ∀ j k, behind G a j i 0 k m = 0 := fun j k => by
    unfold behind
    rw [two_0, sm_zero (fun q _ => by split <;> simp)]
    simp
  have e2 : ∀ j, passOne G a j i 0 m = 0 := fun j => by
    unfold passOne
    rw [sm_zero (fun k _ => by rw [e1, Int.mul_zero])]
    simp
  rw [sm_zero (fun j _ => by rw [e2]; split <;> simp)]
  split <;> split <;> simp
theorem e_timesLetter {σ : Mem} {G : GD} (h : MG σ G) (hG : GOK G) {a : Nat → Int} {s i : Nat} {y : Int} (hs : s < 100) (hi : i < gn G) (hv : ∀ i, i < 6 → vec σ s i = oi (a i)) (h0 : M0 σ) (hy1 : gw G i = 1 → two64ok y) (ha : ∀ j, j < gn G → gw G j = 1 → two64ok (a j)) :
    f_X11_timesLetter σ (i32 s) (i32 i) (oi y) = some (setI σ s (TL G a i y)) := by
  have hn := hG.2.1
  unfold f_X11_timesLetter
  by_cases hy0 : oi y = 0
  · rw [if_pos hy0]
    by_cases hw : gw G i = 1
    · have hy2 : y = 0 := by
        refine Classical.byContradiction (fun q => oi_ne0 q (hy1 hw) hy0)
      rw [hy2, TL_0, setI_id hv]
    · rw [setI_id]
      intro m hm
      unfold TL
      rw [if_neg hw, Int.add_zero, hv m hm]
      by_cases h1 : m = i
      · rw [if_pos h1, ← oi_add, hy0, Int64.add_zero]
      · rw [if_neg h1, Int.add_zero]
  · rw [if_neg hy0, e_weight h (by omega), e_bs]
    have hw3 := (hG.2.2.1 i hi).2
    have last : ∀ (τ : Mem) (c : Nat → Int), (∀ i, i < 6 → vec τ s i = oi (c i)) → j_X11_timesLetter_171 (i32 s) (i32 i) (oi y) τ = some (setI τ s (fun m => c m + if m = i then y else 0)) := by
      intro τ c hc
      unfold j_X11_timesLetter_171
      rw [e_of hs (by omega), e_bs, hc i (by omega), oi_add, e_puts hs (by omega), e_bs]
      congr 1
      unfold setI
      refine setV_congr (fun m hm => ?_)
      unfold upv
      dsimp only
      by_cases h1 : m = i
      · rw [if_pos h1, if_pos h1, h1]
      · rw [if_neg h1, if_neg h1, hc m hm, Int.add_zero]
    by_cases hw : gw G i = 1
    · have hy := hy1 hw
      rw [hw, if_pos i32_1.symm, e_bd, i32_1, i32_add, e_tl21 h hG hs hi hv, e_bs]
      unfold j_X11_timesLetter_77
      rw [e_weight (setI_MG h) (by omega), e_bs, hw, if_pos i32_1.symm, e_bd, i32_1, i32_add, e_tl91 (setI_MG h) hG hs hi (fun i hi => setI_vec hi) h0.setI hy (fun j hj hj1 => by rw [tlTwo_low hG hi (by omega)]; exact ha j hj hj1), e_bs]
      unfold j_X11_timesLetter_125
      rw [e_tl128 hs (fun i hi => setI_vec hi) h0.setI, e_bs, setI_setI, last _ _ (fun i hi => setI_vec hi), setI_setI]
      congr 1
      refine setI_congr (fun m hm => ?_)
      unfold TL
      rw [if_pos hw]
      unfold tlTwo
      have e1 : ∀ j, (if i < j ∧ gw G j = 1 then passOne G (tlTwo G a i y) j i y m else 0) = if i < j ∧ gw G j = 1 then passOne G a j i y m else 0 := by
        intro j
        by_cases h1 : i < j ∧ gw G j = 1
        · rw [if_pos h1, if_pos h1]
          have e2 : ∀ q, gw G q ≤ 2 → tlTwo G a i y q = a q := fun q hq => tlTwo_low hG hi hq
          unfold passOne behind
          rw [e2 j (by omega)]
          congr 1
          refine sm_congr (fun k _ => ?_)
          congr 2
          refine sm_congr (fun q _ => ?_)
          by_cases h3 : j < q ∧ gw G q = 1
          · rw [if_pos h3, if_pos h3, e2 q (by omega)]
          · rw [if_neg h3, if_neg h3]
        · rw [if_neg h1, if_neg h1]
      have e3 : (fun j => if i < j ∧ gw G j = 1 then passOne G (fun m => a m + sm (fun j => if i < j ∧ gw G j = 2 then tI G j i m * (a j * y) else 0) (gn G)) j i y m else 0) = fun j => if i < j ∧ gw G j = 1 then passOne G a j i y m else 0 := funext e1
      rw [e3, Int.add_assoc, Int.add_assoc, Int.add_assoc]
      congr 1
      rw [← Int.add_assoc, sm_add, Int.add_comm]
      congr 1
      refine sm_congr (fun j _ => ?_)
      by_cases h2 : i < j ∧ gw G j = 2
      · rw [if_pos h2, if_neg (by omega), if_pos h2, Int.add_zero]
      · rw [if_neg h2, if_neg h2, Int.zero_add]
    · rw [if_neg (i_ne1 hw (by omega)), e_bs]
      unfold j_X11_timesLetter_77
      rw [e_weight h (by omega), e_bs, if_neg (i_ne1 hw (by omega)), e_bs, last _ _ hv]
      congr 1
      refine setI_congr (fun m hm => ?_)
      unfold TL
      rw [if_neg hw, Int.add_zero]
theorem TL_one {G : GD} (hG : GOK G) {a : Nat → Int} {i m : Nat} {y : Int} (hi : i < gn G) (hm : gw G m ≤ 1) : TL G a i y m = a m + if m = i then y else 0 := by
  unfold TL
  have h0 : ∀ j, tI G j i m = 0 := fun j => by
    unfold tI
    by_cases h1 : gt G j i m = 0
    · rw [h1]; rfl
    · have h2 := hG.2.2.2.2.2.2 j i m h1
      have h3 := (hG.2.2.1 i hi).1
      have h4 := (hG.2.2.1 j (by omega)).1
      omega
  have h1 : ∀ j k, tI G j i k * behind G a j i y k m = 0 := fun j k => by
    by_cases h2 : gt G j i k = 0
    · unfold tI; rw [h2]; exact Int.zero_mul _
    · have h3 := hG.2.2.2.2.2.2 j i k h2
      by_cases h4 : m ≤ k ∨ gn G ≤ m ∨ 2 < gw G k
      · exact behind_0 hG h4
      · have h5 := hG.2.2.2.1 k m (by omega) (by omega)
        have h6 := (hG.2.2.1 i hi).1
        have h7 := (hG.2.2.1 j (by omega)).1
        omega
  by_cases hw : gw G i = 1
  · rw [if_pos hw, sm_zero, Int.add_zero]
    intro j _
    unfold passOne
    rw [h0, sm_zero (fun k _ => h1 j k)]
    split
    · simp
    · split <;> simp
  · rw [if_neg hw, Int.add_zero]
theorem mulU_one {G : GD} (hG : GOK G) {a b : Nat → Int} {m : Nat} (hm : gw G m ≤ 1) : ∀ k, k ≤ gn G → mulU G a b k m = a m + if m < k then b m else 0 := by
  intro k
  induction k with
  | zero => intro _; rw [if_neg (Nat.not_lt_zero m), Int.add_zero]; rfl
  | succ k ih =>
    intro hk
    show TL G (mulU G a b k) k (b k) m = _
    rw [TL_one hG (by omega) hm, ih (by omega)]
    by_cases h1 : m = k
    · subst h1; rw [if_neg (Nat.lt_irrefl m), if_pos rfl, if_pos (Nat.lt_succ_self m), Int.add_zero]
    · rw [if_neg h1, Int.add_zero]
      by_cases h2 : m < k
      · rw [if_pos h2, if_pos (by omega)]
      · rw [if_neg h2, if_neg (by omega)]
/-- exponents of weight one that are small -/
def S30 (G : GD) (a : Nat → Int) : Prop := ∀ j, j < gn G → gw G j = 1 → -2 ^ 30 ≤ a j ∧ a j ≤ 2 ^ 30
theorem e_times {σ : Mem} {G : GD} (h : MG σ G) (hG : GOK G) {a b : Nat → Int} {s r : Nat} (hs : s < 100) (hr : r < 100) (hne : r ≠ s) (hv : ∀ i, i < 6 → vec σ s i = oi (a i)) (hu : ∀ i, i < 6 → vec σ r i = oi (b i)) (h0 : M0 σ) (ha : S30 G a) (hb : S30 G b) :
    f_X11_times σ (i32 s) (i32 r) = some (setI σ s (mul G a b)) := by
  have hn := hG.2.1
  unfold f_X11_times
  refine loop_at (fun k => (setI σ s (mulU G a b k), i32 k)) 0 (gn G) ?_ (Nat.zero_le _) (fun k _ hk => ?_) ?_
  · refine Prod.ext ?_ rfl
    exact setI_id hv
  · show l_X11_times_2 _ _ _ _ = _
    unfold l_X11_times_2
    rw [e_n (setI_MG h), e_bs, if_neg (i_nle hk (by omega)), e_of hr (by omega), e_bs, setI_ne (by omega) hne, hu k (by omega), e_timesLetter (setI_MG h) hG hs hk (fun i hi => setI_vec hi) h0.setI (fun hw => ?_) (fun j hj hj1 => ?_), e_bs, setI_setI, i32_1, i32_add]
    · rfl
    · have := hb k hk hw; exact ⟨by omega, by omega⟩
    · have h1 := ha j hj hj1
      have h2 := hb j hj hj1
      rw [mulU_one hG (by omega) k (by omega)]
      split <;> exact ⟨by omega, by omega⟩
  · show l_X11_times_2 _ _ _ _ = _
    unfold l_X11_times_2
    rw [e_n (setI_MG h), e_bs, if_pos (i_le (Nat.le_refl _) (by omega))]
    rfl
end
section
/-! all places at once: memory with the places' whole numbers f -/
abbrev SF : Type := Nat → Nat → Int
def PS (σ : Mem) (f : SF) : Mem := (σ.1, fun x y => if x = 313 ∧ y < 600 then oi (f (y / 6) (y % 6)) else σ.2 x y)
def uS (f : SF) (s : Nat) (a : Nat → Int) : SF := fun q => if q = s then a else f q
theorem uS_self {f : SF} {s : Nat} {a : Nat → Int} : uS f s a s = a := if_pos rfl
theorem uS_ne {f : SF} {s q : Nat} {a : Nat → Int} (h : q ≠ s) : uS f s a q = f q := if_neg h
theorem PS_1 {σ : Mem} {f : SF} : (PS σ f).1 = σ.1 := rfl
theorem PS_2 {σ : Mem} {f : SF} {x : Nat} (h : x ≠ 313) : (PS σ f).2 x = σ.2 x := funext (fun _ => if_neg (fun q => h q.1))
theorem PS_vec {σ : Mem} {f : SF} {s i : Nat} (hs : s < 100) (hi : i < 6) : vec (PS σ f) s i = oi (f s i) := by
  show (if 313 = 313 ∧ 6 * s + i < 600 then oi (f ((6 * s + i) / 6) ((6 * s + i) % 6)) else _) = _
  rw [if_pos ⟨rfl, by omega⟩, show (6 * s + i) / 6 = s by omega, show (6 * s + i) % 6 = i by omega]
theorem PS_setI {σ : Mem} {f : SF} {s : Nat} {a : Nat → Int} (hs : s < 100) : setI (PS σ f) s a = PS σ (uS f s a) := by
  unfold setI setV PS uS
  refine Prod.ext rfl ?_
  funext x y
  show (if x = 313 ∧ 6 * s ≤ y ∧ y < 6 * s + 6 then oi (a (y - 6 * s)) else if x = 313 ∧ y < 600 then oi (f (y / 6) (y % 6)) else σ.2 x y) = (if x = 313 ∧ y < 600 then oi ((if y / 6 = s then a else f (y / 6)) (y % 6)) else σ.2 x y)
  by_cases h1 : x = 313 ∧ 6 * s ≤ y ∧ y < 6 * s + 6
  · rw [if_pos h1, if_pos ⟨h1.1, by omega⟩, if_pos (by omega), show y - 6 * s = y % 6 by omega]
  · rw [if_neg h1]
    by_cases h2 : x = 313 ∧ y < 600
    · rw [if_pos h2, if_pos h2, if_neg (by omega)]
    · rw [if_neg h2, if_neg h2]
theorem PS_MG {σ : Mem} {f : SF} {G : GD} (h : MG σ G) : MG (PS σ f) G := h
theorem PS_M0 {σ : Mem} {f : SF} (h : M0 σ) : M0 (PS σ f) := fun m hm => by rw [PS_2 (by omega)]; exact h m hm
/-- any memory is of this kind -/
theorem PS_any (σ : Mem) : ∃ f : SF, PS σ f = σ := by
  refine ⟨fun s i => (σ.2 313 (6 * s + i)).toInt, ?_⟩
  unfold PS
  refine Prod.ext rfl ?_
  funext x y
  show (if x = 313 ∧ y < 600 then oi (σ.2 313 (6 * (y / 6) + y % 6)).toInt else _) = _
  by_cases h : x = 313 ∧ y < 600
  · rw [if_pos h, show 6 * (y / 6) + y % 6 = y by omega, h.1]
    exact Int64.ofInt_toInt _
  · rw [if_neg h]
theorem PS_PS {σ : Mem} {f g : SF} : PS (PS σ f) g = PS σ g := by
  unfold PS
  refine Prod.ext rfl ?_
  funext x y
  show (if _ then _ else if _ then _ else _) = (if _ then _ else _)
  split <;> rfl
section SL
variable {σ : Mem} {G : GD} {f : SF}
theorem p_of {s i : Nat} (hs : s < 100) (hi : i < 6) : f_X11_of (PS σ f) (i32 s) (i32 i) = some (oi (f s i)) := by
  rw [e_of hs hi, PS_vec hs hi]
theorem upv_oi {a : Nat → Int} {i : Nat} {x : Int} : upv (fun k => oi (a k)) i (oi x) = fun k => oi (if k = i then x else a k) := by
  funext k
  unfold upv
  split <;> rfl
def uV (a : Nat → Int) (i : Nat) (x : Int) : Nat → Int := fun k => if k = i then x else a k
theorem p_puts {s i : Nat} {x : Int} (hs : s < 100) (hi : i < 6) : f_X11_puts (PS σ f) (i32 s) (i32 i) (oi x) = some (PS σ (uS f s (uV (f s) i x))) := by
  rw [e_puts hs hi, ← PS_setI hs]
  congr 1
  unfold setI
  refine setV_congr (fun k hk => ?_)
  unfold upv uV
  split
  · rfl
  · exact PS_vec hs hk
theorem p_ones {s : Nat} (hs : s < 100) : f_X11_ones (PS σ f) (i32 s) = some (PS σ (uS f s (fun _ => 0))) := by
  rw [e_ones hs, ← PS_setI hs]; rfl
theorem p_copies {s r : Nat} (hs : s < 100) (hr : r < 100) (hne : s ≠ r) : f_X11_copies (PS σ f) (i32 s) (i32 r) = some (PS σ (uS f r (f s))) := by
  rw [e_copies hs hr hne, ← PS_setI hr]
  congr 1
  unfold setI
  exact setV_congr (fun k hk => PS_vec hs hk)
theorem p_times (h : MG σ G) (hG : GOK G) (h0 : M0 σ) {s r : Nat} (hs : s < 100) (hr : r < 100) (hne : r ≠ s) (ha : S30 G (f s)) (hb : S30 G (f r)) : f_X11_times (PS σ f) (i32 s) (i32 r) = some (PS σ (uS f s (mul G (f s) (f r)))) := by
  rw [e_times (PS_MG h) hG hs hr hne (fun i hi => PS_vec hs hi) (fun i hi => PS_vec hr hi) (PS_M0 h0) ha hb, PS_setI hs]
end SL
/-! inverses -/
def invU (G : GD) (a : Nat → Int) : Nat → (Nat → Int)
  | 0 => fun _ => 0
  | k + 1 => uV (invU G a k) k (-(mul G a (invU G a k) k))
def inv (G : GD) (a : Nat → Int) : Nat → Int := invU G a (gn G)
theorem mul_one {G : GD} (hG : GOK G) {a b : Nat → Int} {m : Nat} (hm : gw G m ≤ 1) (hm2 : m < gn G) : mul G a b m = a m + b m := by
  unfold mul
  rw [mulU_one hG hm (gn G) (Nat.le_refl _), if_pos hm2]
theorem invU_one {G : GD} (hG : GOK G) {a : Nat → Int} {m : Nat} (hm : gw G m ≤ 1) (hm2 : m < gn G) : ∀ k, invU G a k m = if m < k then -a m else 0 := by
  intro k
  induction k with
  | zero => rw [if_neg (Nat.not_lt_zero m)]; rfl
  | succ k ih =>
    show uV (invU G a k) k _ m = _
    unfold uV
    by_cases h1 : m = k
    · subst h1
      rw [if_pos rfl, mul_one hG hm hm2, ih, if_neg (Nat.lt_irrefl m), if_pos (Nat.lt_succ_self m), Int.add_zero]
    · rw [if_neg h1, ih]
      by_cases h2 : m < k
      · rw [if_pos h2, if_pos (by omega)]
      · rw [if_neg h2, if_neg (by omega)]
theorem inv_one {G : GD} (hG : GOK G) {a : Nat → Int} {m : Nat} (hm : gw G m ≤ 1) (hm2 : m < gn G) : inv G a m = -a m := by
  unfold inv
  rw [invU_one hG hm hm2, if_pos hm2]
/-- exponents of weight one within a bound -/
def SB (G : GD) (B : Int) (a : Nat → Int) : Prop := ∀ j, j < gn G → gw G j = 1 → -B ≤ a j ∧ a j ≤ B
theorem SB.s30 {G : GD} {B : Int} {a : Nat → Int} (h : SB G B a) (hB : B ≤ 2 ^ 30) : S30 G a := fun j hj hw => by have := h j hj hw; omega
theorem SB.mul {G : GD} (hG : GOK G) {A B : Int} {a b : Nat → Int} (ha : SB G A a) (hb : SB G B b) : SB G (A + B) (mul G a b) := fun j hj hw => by
  rw [mul_one hG (by omega) hj]
  have h1 := ha j hj hw
  have h2 := hb j hj hw
  omega
theorem SB.inv {G : GD} (hG : GOK G) {A : Int} {a : Nat → Int} (ha : SB G A a) : SB G A (inv G a) := fun j hj hw => by
  rw [inv_one hG (by omega) hj]
  have h1 := ha j hj hw
  omega
theorem SB.invU {G : GD} (hG : GOK G) {A : Int} {a : Nat → Int} (ha : SB G A a) (k : Nat) : SB G A (invU G a k) := fun j hj hw => by
  rw [invU_one hG (by omega) hj]
  have h1 := ha j hj hw
  split <;> omega
/-- so many times itself -/
def pw (G : GD) (x : Nat → Int) : Nat → (Nat → Int)
  | 0 => fun _ => 0
  | k + 1 => mul G (pw G x k) x
theorem SB.zero {G : GD} {A : Int} (hA : 0 ≤ A) : SB G A (fun _ => 0) := fun j _ _ => ⟨by show -A ≤ 0; omega, by show 0 ≤ A; omega⟩
section SL2
variable {σ : Mem} {G : GD} {f : SF}
theorem p_inverse (h : MG σ G) (hG : GOK G) (h0 : M0 σ) {s t : Nat} (hs : s < 100) (ht : t + 1 < 100) (hne : s ≠ t) (hne2 : s ≠ t + 1) {B : Int} (hB : 2 * B ≤ 2 ^ 30) (hB0 : 0 ≤ B) (ha : SB G B (f s)) :
    ∃ f', f_X11_inverse (PS σ f) (i32 s) (i32 t) = some (PS σ f') ∧ f' t = inv G (f s) ∧ ∀ q, q ≠ t → q ≠ t + 1 → f' q = f q := by
  have hn := hG.2.1
  unfold f_X11_inverse
  rw [p_ones (by omega), e_bs]
  have hl := loop_inv (body := fun (z3 : Mem × Int32) => l_X11_inverse_7 (i32 s) (i32 t) z3.1 z3.2) (fun n z => ∃ k f', k ≤ gn G ∧ n = gn G - k ∧ z = (PS σ f', i32 k) ∧ f' t = invU G (f s) k ∧ ∀ q, q ≠ t → q ≠ t + 1 → f' q = f q) (fun x => ∃ f', x = PS σ f' ∧ f' t = inv G (f s) ∧ ∀ q, q ≠ t → q ≠ t + 1 → f' q = f q) ?_ (gn G) (PS σ (uS f t (fun _ => 0)), 0) ⟨0, _, Nat.zero_le _, by omega, rfl, uS_self, fun q hq _ => uS_ne hq⟩
  · obtain ⟨x, hx, f', rfl, h1, h2⟩ := hl
    exact ⟨f', hx, h1, h2⟩
  · rintro n z ⟨k, f', hk, hnk, rfl, h1, h2⟩
    show _ ∨ _
    by_cases hkn : k = gn G
    · right
      refine ⟨PS σ f', ?_, f', rfl, by rw [h1, hkn]; rfl, h2⟩
      show l_X11_inverse_7 _ _ _ _ = _
      unfold l_X11_inverse_7
      rw [e_n (PS_MG h), e_bs, if_pos (i_le (by omega) (by omega))]
    · left
      have hfs : f' s = f s := h2 s hne hne2
      refine ⟨_, gn G - (k + 1), by omega, ?_, k + 1, uS (uS f' (t + 1) (mul G (f s) (invU G (f s) k))) t (invU G (f s) (k + 1)), by omega, rfl, rfl, uS_self, fun q hq hq2 => by rw [uS_ne hq, uS_ne hq2, h2 q hq hq2]⟩
      show l_X11_inverse_7 _ _ _ _ = _
      unfold l_X11_inverse_7
      have hS1 : SB G B (uS f' (t + 1) (f' s) (t + 1)) := by rw [uS_self, hfs]; exact ha
      have hS2 : SB G B (uS f' (t + 1) (f' s) t) := by rw [uS_ne (by omega), h1]; exact ha.invU hG k
      rw [e_n (PS_MG h), e_bs, if_neg (i_nle (by omega) (by omega)), i32_1, i32_add, p_copies hs (by omega) hne2, e_bs, p_times h hG h0 (by omega) (by omega) (by omega) (hS1.s30 (by omega)) (hS2.s30 (by omega)), e_bs, p_of (by omega) (by omega), e_bs, oi_neg, p_puts (by omega) (by omega), e_bs, i32_add]
      congr 4
      funext q
      unfold uS
      by_cases hq : q = t
      · subst hq
        rw [if_pos rfl, if_pos rfl, if_neg (by omega), if_neg (by omega), if_pos rfl, h1, hfs]
        rw [if_pos rfl]
        rfl
      · rw [if_neg hq, if_neg hq]
        by_cases hq2 : q = t + 1
        · subst hq2
          rw [if_pos rfl, if_pos rfl, if_pos rfl, if_neg (by omega), h1, hfs]
        · rw [if_neg hq2, if_neg hq2, if_neg hq2]
/-- powers -/
theorem p_commutator (h : MG σ G) (hG : GOK G) (h0 : M0 σ) {s r t : Nat} (hs : s < 100) (hr : r < 100) (ht : t + 2 < 100) (hst : s < t ∨ t + 2 < s) (hrt : r < t ∨ t + 2 < r) {B : Int} (hB : 4 * B ≤ 2 ^ 30) (hB0 : 0 ≤ B) (ha : SB G B (f s)) (hb : SB G B (f r)) :
    ∃ f', f_X11_commutator (PS σ f) (i32 s) (i32 r) (i32 t) = some (PS σ f') ∧ f' t = mul G (mul G (mul G (inv G (f s)) (inv G (f r))) (f s)) (f r) ∧ ∀ q, q < t ∨ t + 2 < q → f' q = f q := by
  unfold f_X11_commutator
  obtain ⟨f1, e1, g1, k1⟩ := p_inverse (f := f) h hG h0 hs (t := t) (by omega) (by omega) (by omega) (by omega) hB0 ha
  rw [e1, e_bs, i32_1, i32_add]
  have hr1 : f1 r = f r := k1 r (by omega) (by omega)
  have hs1 : f1 s = f s := k1 s (by omega) (by omega)
  obtain ⟨f2, e2, g2, k2⟩ := p_inverse (f := f1) h hG h0 hr (t := t + 1) (by omega) (by omega) (by omega) (by omega) hB0 (by rw [hr1]; exact hb)
  have ht2 : f2 t = inv G (f s) := by rw [k2 t (by omega) (by omega), g1]
  have hs2 : f2 s = f s := by rw [k2 s (by omega) (by omega), hs1]
  have hr2 : f2 r = f r := by rw [k2 r (by omega) (by omega), hr1]
  rw [hr1] at g2
  have hi1 := ha.inv hG
  have hi2 := hb.inv hG
  have hi3 := hi1.mul hG hi2
  have hi4 := hi3.mul hG ha
  rw [e2, e_bs, p_times h hG h0 (by omega) (by omega) (by omega) (by rw [ht2]; exact hi1.s30 (by omega)) (by rw [g2]; exact hi2.s30 (by omega)), e_bs, g2, ht2]
  rw [p_times h hG h0 (by omega) (by omega) (by omega) (by rw [uS_self]; exact hi3.s30 (by omega)) (by rw [uS_ne (by omega), hs2]; exact ha.s30 (by omega)), e_bs, uS_self, uS_ne (by omega), hs2]
  rw [p_times h hG h0 (by omega) (by omega) (by omega) (by rw [uS_self]; exact hi4.s30 (by omega)) (by rw [uS_ne (by omega), uS_ne (by omega), hr2]; exact hb.s30 (by omega)), e_bs, uS_self, uS_ne (by omega), uS_ne (by omega), hr2]
  refine ⟨_, rfl, uS_self, fun q hq => ?_⟩
  rw [uS_ne (by omega), uS_ne (by omega), uS_ne (by omega), k2 q (by omega) (by omega), k1 q (by omega) (by omega)]
theorem p_conjugates (h : MG σ G) (hG : GOK G) (h0 : M0 σ) {s r t : Nat} (hs : s < 100) (hr : r < 100) (ht : t + 1 < 100) (hst : s < t ∨ t + 1 < s) (hrt : r < t ∨ t + 1 < r) {B : Int} (hB : 4 * B ≤ 2 ^ 30) (hB0 : 0 ≤ B) (ha : SB G B (f s)) (hb : SB G B (f r)) :
    ∃ f', f_X11_conjugates (PS σ f) (i32 s) (i32 r) (i32 t) = some (PS σ f') ∧ f' t = mul G (mul G (inv G (f r)) (f s)) (f r) ∧ ∀ q, q < t ∨ t + 1 < q → f' q = f q := by
  unfold f_X11_conjugates
  obtain ⟨f1, e1, g1, k1⟩ := p_inverse (f := f) h hG h0 hr (t := t) (by omega) (by omega) (by omega) (by omega) hB0 hb
  have hr1 : f1 r = f r := k1 r (by omega) (by omega)
  have hs1 : f1 s = f s := k1 s (by omega) (by omega)
  have hi2 := hb.inv hG
  have hi3 := hi2.mul hG ha
  rw [e1, e_bs, p_times h hG h0 (by omega) (by omega) (by omega) (by rw [g1]; exact hi2.s30 (by omega)) (by rw [hs1]; exact ha.s30 (by omega)), e_bs, g1, hs1]
  rw [p_times h hG h0 (by omega) (by omega) (by omega) (by rw [uS_self]; exact hi3.s30 (by omega)) (by rw [uS_ne (by omega), hr1]; exact hb.s30 (by omega)), e_bs, uS_self, uS_ne (by omega), hr1]
  refine ⟨_, rfl, uS_self, fun q hq => ?_⟩
  rw [uS_ne (by omega), uS_ne (by omega), k1 q (by omega) (by omega)]
/-- a power by multiplying -/
theorem pw_bound {x : Nat → Int} {B : Int} (hG : GOK G) (hx : SB G B x) (hB0 : 0 ≤ B) : ∀ k : Nat, SB G (B * k) (pw G x k) := by
  intro k
  induction k with
  | zero => exact SB.zero (by simp)
  | succ k ih =>
    have h1 := ih.mul hG hx
    intro j hj hw
    have h2 := h1 j hj hw
    have e : B * ((k + 1 : Nat) : Int) = B * k + B := by rw [Int.natCast_add, Int.mul_add]; simp
    rw [e]
    exact h2
theorem p_raises (h : MG σ G) (hG : GOK G) (h0 : M0 σ) {s t : Nat} {m : Int32} {z : Int} (hs : s < 100) (ht : t + 3 < 100) (hst : s < t ∨ t + 3 < s) (hm : m.toInt = z) (hz : -99 ≤ z ∧ z ≤ 99) {B : Int} (hB : 100 * B ≤ 2 ^ 30) (hB0 : 0 ≤ B) (ha : SB G B (f s)) :
    ∃ f', f_X11_raises (PS σ f) (i32 s) (i32 t) m = some (PS σ f') ∧ f' t = pw G (if z < 0 then inv G (f s) else f s) z.natAbs ∧ ∀ q, q < t ∨ t + 3 < q → f' q = f q := by
  have hm2 : m = if 0 ≤ z then i32 z.natAbs else -i32 z.natAbs := by
    rw [← Int32.toInt_inj, hm]
    split
    · rw [i32_toInt (by omega)]; omega
    · rw [Int32.toInt_neg, i32_toInt (by omega)]
      rw [Int.bmod_eq_of_le (by omega) (by omega)]; omega
  unfold f_X11_raises
  have hfirst : ∃ f1, (if 0 ≤ m then ((f_X11_copies (PS σ f) (i32 s) (i32 t + 2)).bind (fun (σ7 : Mem) => some σ7)) else ((f_X11_inverse (PS σ f) (i32 s) (i32 t + 2)).bind (fun (σ8 : Mem) => some σ8)) : Option Mem) = some (PS σ f1) ∧ f1 (t + 2) = (if z < 0 then inv G (f s) else f s) ∧ ∀ q, q ≠ t + 2 → q ≠ t + 3 → f1 q = f q := by
    by_cases hz0 : 0 ≤ z
    · rw [if_pos hz0] at hm2
      rw [hm2, if_pos (show 0 ≤ i32 z.natAbs from i_le (a := 0) (Nat.zero_le _) (by omega)), i32_2, i32_add, p_copies hs (by omega) (by omega), e_bs, if_neg (by omega)]
      exact ⟨_, rfl, uS_self, fun q h1 _ => uS_ne h1⟩
    · have hneg : ¬ 0 ≤ m := by
        rw [Int32.le_iff_toInt_le, hm]
        have : (0 : Int32).toInt = 0 := by decide
        omega
      obtain ⟨f1, e1, g1, k1⟩ := p_inverse (f := f) h hG h0 hs (t := t + 2) (by omega) (by omega) (by omega) (by omega) hB0 ha
      rw [if_neg hneg, i32_2, i32_add, e1, e_bs, if_pos (by omega)]
      exact ⟨f1, rfl, g1, fun q h1 h2 => k1 q h1 (by omega)⟩
  obtain ⟨f1, e1, g1, k1⟩ := hfirst
  rw [e1, e_bs]
  unfold j_X11_raises_23
  have habs : (if 0 ≤ m then (some m) else (some (-m)) : Option Int32) = some (i32 z.natAbs) := by
    by_cases hz0 : 0 ≤ z
    · rw [if_pos hz0] at hm2
      rw [hm2, if_pos (show 0 ≤ i32 z.natAbs from i_le (a := 0) (Nat.zero_le _) (by omega))]
    · have hneg : ¬ 0 ≤ m := by
        rw [Int32.le_iff_toInt_le, hm]
        have : (0 : Int32).toInt = 0 := by decide
        omega
      rw [if_neg hz0] at hm2
      rw [if_neg hneg, hm2, Int32.neg_neg]
  rw [p_ones (by omega), e_bs, habs, e_bs]
  unfold j_X11_raises_38
  have hx : SB G B (if z < 0 then inv G (f s) else f s) := by
    split
    · exact ha.inv hG
    · exact ha
  generalize (if z < 0 then inv G (f s) else f s) = x at g1 hx ⊢
  have hN : z.natAbs ≤ 99 := by omega
  generalize z.natAbs = N at hN ⊢
  refine ⟨_, loop_at (fun k => (PS σ (uS f1 t (pw G x k)), i32 (N - k))) 0 N ?_ (Nat.zero_le _) (fun k _ hk => ?_) (x := PS σ (uS f1 t (pw G x N))) ?_, uS_self, fun q hq => by rw [uS_ne (by omega), k1 q (by omega) (by omega)]⟩
  · rfl
  · show l_X11_raises_40 _ _ _ = _
    unfold l_X11_raises_40
    have hb := pw_bound hG hx hB0 k
    have hkB : B * (k : Int) ≤ B * 99 := Int.mul_le_mul_of_nonneg_left (by omega) hB0
    rw [if_neg (show ¬ i32 (N - k) ≤ 0 from i_nle (b := 0) (by omega) (by omega)), i32_2, i32_add, p_times h hG h0 (by omega) (by omega) (by omega) (by rw [uS_self]; exact hb.s30 (by omega)) (by rw [uS_ne (by omega), g1]; exact hx.s30 (by omega)), e_bs, uS_self, uS_ne (by omega), g1]
    have e2 : i32 (N - k) + (-1) = i32 (N - (k + 1)) := by
      rw [show N - k = (N - (k + 1)) + 1 by omega, ← i32_add, ← i32_1, Int32.add_neg_eq_sub, Int32.add_sub_cancel]
    rw [e2]
    congr 4
    funext q
    unfold uS
    by_cases hq : q = t
    · rw [if_pos hq, if_pos hq]; rfl
    · rw [if_neg hq, if_neg hq, if_neg hq]
  · show l_X11_raises_40 _ _ _ = _
    unfold l_X11_raises_40
    rw [Nat.sub_self, if_pos (show i32 0 ≤ 0 from i_le (b := 0) (Nat.le_refl 0) (by omega))]
end SL2
end
section
/-! what the reference asks of elements -/
theorem oi_lt {x y : Int} (hx : -2 ^ 63 ≤ x ∧ x < 2 ^ 63) (hy : -2 ^ 63 ≤ y ∧ y < 2 ^ 63) : (oi x < oi y) ↔ x < y := by
  rw [Int64.lt_iff_toInt_lt, oi_toInt hx.1 hx.2, oi_toInt hy.1 hy.2]
theorem oi_le {x y : Int} (hx : -2 ^ 63 ≤ x ∧ x < 2 ^ 63) (hy : -2 ^ 63 ≤ y ∧ y < 2 ^ 63) : (oi x ≤ oi y) ↔ x ≤ y := by
  rw [Int64.le_iff_toInt_le, oi_toInt hx.1 hx.2, oi_toInt hy.1 hy.2]
theorem oi_eq {x y : Int} (hx : -2 ^ 63 ≤ x ∧ x < 2 ^ 63) (hy : -2 ^ 63 ≤ y ∧ y < 2 ^ 63) : (oi x = oi y) ↔ x = y := by
  rw [← Int64.toInt_inj, oi_toInt hx.1 hx.2, oi_toInt hy.1 hy.2]
/-- fits a long -/
abbrev L63 (x : Int) : Prop := -2 ^ 63 ≤ x ∧ x < 2 ^ 63
theorem e_isIn {σ : Mem} {x l u : Int64} : f_X11_isIn σ x l u = some (decide (l ≤ x ∧ x ≤ u)) := by
  unfold f_X11_isIn j_X11_isIn_17
  by_cases h1 : x < l
  · rw [if_pos h1, e_bs, decide_eq_false (fun q => Int64.not_le.mpr h1 q.1)]; rfl
  · rw [if_neg h1]
    by_cases h2 : u < x
    · rw [if_pos h2, e_bs, decide_eq_false (fun q => Int64.not_le.mpr h2 q.2)]; rfl
    · rw [if_neg h2, e_bs, decide_eq_true ⟨Int64.not_lt.mp h1, Int64.not_lt.mp h2⟩]; rfl
/-- a loop that looks whether all are so -/
theorem loop_all {body : Int32 → Option (Int32 ⊕ Bool)} (n : Nat) (p : Nat → Prop) (hp : ∀ k, Decidable (p k)) (hs : ∀ k, k < n → body (i32 k) = some (if p k then Sum.inl (i32 (k + 1)) else Sum.inr false)) (he : body (i32 n) = some (Sum.inr true)) (b : Bool) (hb : b = true ↔ ∀ k, k < n → p k) : loopO body 0 = some b := by
  have key : ∀ d, d ≤ n → (∀ k, k < n - d → p k) → loopO body (i32 (n - d)) = some b := by
    intro d
    induction d with
    | zero =>
      intro _ h
      rw [Nat.sub_zero, loopO_eq, he]
      show some true = some b
      rw [hb.mpr h]
    | succ d ih =>
      intro hd h
      rw [loopO_eq, hs (n - (d + 1)) (by omega)]
      by_cases hq : p (n - (d + 1))
      · rw [if_pos hq]
        show loopO body (i32 (n - (d + 1) + 1)) = some b
        rw [show n - (d + 1) + 1 = n - d by omega]
        refine ih (by omega) (fun k hk => ?_)
        by_cases h1 : k = n - (d + 1)
        · rw [h1]; exact hq
        · exact h k (by omega)
      · rw [if_neg hq]
        show some false = some b
        cases b with
        | false => rfl
        | true => exact absurd (hb.mp rfl (n - (d + 1)) (by omega)) hq
  have := key n (Nat.le_refl n) (fun k hk => by omega)
  rwa [Nat.sub_self] at this
section QS
variable {σ : Mem} {G : GD} {f : SF}
/-- as longs: within 999, 0, alike -/
def isEl (G : GD) (a : Nat → Int) : Bool := decide (∀ k, k < gn G → -999 ≤ oi (a k) ∧ oi (a k) ≤ 999)
theorem p_isElement (h : MG σ G) (hG : GOK G) {s : Nat} (hs : s < 100) : f_X11_isElement (PS σ f) (i32 s) = some (isEl G (f s)) := by
  have hn := hG.2.1
  unfold f_X11_isElement
  refine loop_all (gn G) (fun k => -999 ≤ oi (f s k) ∧ oi (f s k) ≤ 999) (fun k => inferInstance) (fun k hk => ?_) ?_ _ (by unfold isEl; rw [decide_eq_true_eq])
  · show l_X11_isElement_2 _ _ _ = _
    unfold l_X11_isElement_2
    rw [e_n (PS_MG h), e_bs, if_neg (i_nle hk (by omega)), p_of hs (by omega), e_bs, e_isIn, e_bs, i32_1, i32_add]
    by_cases hq : -999 ≤ oi (f s k) ∧ oi (f s k) ≤ 999
    · rw [decide_eq_true hq, if_pos hq]; rfl
    · rw [decide_eq_false hq, if_neg hq]; rfl
  · show l_X11_isElement_2 _ _ _ = _
    unfold l_X11_isElement_2
    rw [e_n (PS_MG h), e_bs, if_pos (i_le (Nat.le_refl _) (by omega))]
def isO (G : GD) (a : Nat → Int) : Bool := decide (∀ k, k < gn G → oi (a k) = 0)
theorem p_isOne (h : MG σ G) (hG : GOK G) {s : Nat} (hs : s < 100) : f_X11_isOne (PS σ f) (i32 s) = some (isO G (f s)) := by
  have hn := hG.2.1
  unfold f_X11_isOne
  refine loop_all (gn G) (fun k => oi (f s k) = 0) (fun k => inferInstance) (fun k hk => ?_) ?_ _ (by unfold isO; rw [decide_eq_true_eq])
  · show l_X11_isOne_2 _ _ _ = _
    unfold l_X11_isOne_2
    rw [e_n (PS_MG h), e_bs, if_neg (i_nle hk (by omega)), p_of hs (by omega), e_bs, i32_1, i32_add]
    split <;> rfl
  · show l_X11_isOne_2 _ _ _ = _
    unfold l_X11_isOne_2
    rw [e_n (PS_MG h), e_bs, if_pos (i_le (Nat.le_refl _) (by omega))]
def areS (G : GD) (a b : Nat → Int) : Bool := decide (∀ k, k < gn G → oi (a k) = oi (b k))
theorem p_areSame (h : MG σ G) (hG : GOK G) {s r : Nat} (hs : s < 100) (hr : r < 100) : f_X11_areSame (PS σ f) (i32 s) (i32 r) = some (areS G (f s) (f r)) := by
  have hn := hG.2.1
  unfold f_X11_areSame
  refine loop_all (gn G) (fun k => oi (f s k) = oi (f r k)) (fun k => inferInstance) (fun k hk => ?_) ?_ _ (by unfold areS; rw [decide_eq_true_eq])
  · show l_X11_areSame_2 _ _ _ _ = _
    unfold l_X11_areSame_2
    rw [e_n (PS_MG h), e_bs, if_neg (i_nle hk (by omega)), p_of hs (by omega), e_bs, p_of hr (by omega), e_bs, i32_1, i32_add]
    split <;> rfl
  · show l_X11_areSame_2 _ _ _ _ = _
    unfold l_X11_areSame_2
    rw [e_n (PS_MG h), e_bs, if_pos (i_le (Nat.le_refl _) (by omega))]
end QS
end
section
/-! the product in one formula -/
section GR
variable {G : GD}
/-- two tails one behind the other -/
def DD (G : GD) (m j i q : Nat) : Int := sm (fun k => tI G j i k * tI G k q m) (gn G)
theorem tI_ne (hG : GOK G) {j i k : Nat} (h : tI G j i k ≠ 0) : i < j ∧ j < k ∧ k < gn G ∧ gw G i + gw G j ≤ gw G k := hG.2.2.2.2.2.2 j i k (fun q => h (by unfold tI; rw [q]; rfl))
theorem DD_0 (hG : GOK G) {m j i q : Nat} (h : ¬ (i < j ∧ gw G i = 1 ∧ gw G j = 1 ∧ gw G q = 1 ∧ gw G m = 3 ∧ j < gn G)) : DD G m j i q = 0 := by
  unfold DD
  refine sm_zero (fun k hk => ?_)
  by_cases h1 : tI G j i k = 0
  · rw [h1, Int.zero_mul]
  · by_cases h2 : tI G k q m = 0
    · rw [h2, Int.mul_zero]
    · exfalso
      have a1 := tI_ne hG h1
      have a2 := tI_ne hG h2
      have w1 := (hG.2.2.1 i (by omega)).1
      have w2 := (hG.2.2.1 j (by omega)).1
      have w3 := (hG.2.2.1 q (by omega)).1
      have w4 := (hG.2.2.1 m (by omega)).2
      omega
theorem sm_swap {f : Nat → Nat → Int} {n m : Nat} : sm (fun i => sm (fun j => f i j) m) n = sm (fun j => sm (fun i => f i j) n) m := by
  induction n with
  | zero => exact (sm_zero (fun _ _ => rfl)).symm
  | succ n ih => simp only [sm]; rw [ih, sm_add]
theorem sm_mulr {c : Int} {f : Nat → Int} {n : Nat} : sm f n * c = sm (fun k => f k * c) n := by
  rw [Int.mul_comm, sm_mul]
  exact sm_congr (fun k _ => Int.mul_comm _ _)
/-- what one letter's power adds at m -/
def addL (G : GD) (v : Nat → Int) (i : Nat) (y : Int) (m : Nat) : Int :=
  sm (fun j => tI G j i m * v j * y + (DD G m j i i * v j * two y + DD G m j i j * y * two (v j) + sm (fun q => if j < q then DD G m j i q * v j * v q * y else 0) (gn G))) (gn G)
theorem TL_eq (hG : GOK G) {v : Nat → Int} {i m : Nat} {y : Int} (hi : i < gn G) : TL G v i y m = v m + (if m = i then y else 0) + addL G v i y m := by
  unfold TL addL
  congr 1
  by_cases hw : gw G i = 1
  · rw [if_pos hw]
    refine sm_congr (fun j hj => ?_)
    have wj := hG.2.2.1 j hj
    by_cases h1 : i < j ∧ gw G j = 2
    · rw [if_pos h1, DD_0 hG (by omega), DD_0 hG (by omega), sm_zero (fun q _ => by rw [DD_0 hG (by omega)]; split <;> simp)]
      simp [Int.mul_assoc]
    · rw [if_neg h1]
      by_cases h2 : i < j ∧ gw G j = 1
      · rw [if_pos h2]
        unfold passOne
        congr 1
        unfold behind DD
        rw [sm_mulr, sm_mulr, sm_mulr, sm_mulr, sm_add]
        have e : sm (fun q => if j < q then sm (fun k => tI G j i k * tI G k q m) (gn G) * v j * v q * y else 0) (gn G) = sm (fun k => sm (fun q => if j < q then tI G j i k * tI G k q m * v j * v q * y else 0) (gn G)) (gn G) := by
          rw [sm_swap]
          refine sm_congr (fun q _ => ?_)
          split
          · rw [sm_mulr, sm_mulr, sm_mulr]
          · exact (sm_zero (fun _ _ => rfl)).symm
        rw [e, sm_add]
        refine sm_congr (fun k hk => ?_)
        rw [Int.mul_add, Int.mul_add, sm_mul]
        congr 1
        · congr 1
          · simp only [Int.mul_assoc]
          · simp only [Int.mul_assoc]
        · refine sm_congr (fun q hq => ?_)
          by_cases h3 : j < q
          · rw [if_pos h3]
            by_cases h4 : gw G q = 1
            · rw [if_pos ⟨h3, h4⟩]
              simp only [Int.mul_assoc]
              congr 1
              rw [Int.mul_comm y, Int.mul_comm (v j)]
              simp only [Int.mul_assoc, Int.mul_comm, Int.mul_left_comm]
            · rw [if_neg (fun z => h4 z.2)]
              by_cases h5 : tI G j i k = 0
              · rw [h5]; simp
              · have h6 : tI G k q m = 0 := by
                  refine Classical.byContradiction (fun z => ?_)
                  have a1 := tI_ne hG h5
                  have a2 := tI_ne hG z
                  have w3 := (hG.2.2.1 q (by omega)).1
                  have w4 := (hG.2.2.1 m (by omega)).2
                  omega
                rw [h6]; simp
          · rw [if_neg h3, if_neg (fun z => h3 z.1)]; simp
      · rw [if_neg h2]
        have h0 : tI G j i m = 0 := by
          refine Classical.byContradiction (fun z => ?_)
          have a1 := tI_ne hG z
          have w4 := (hG.2.2.1 m (by omega)).2
          omega
        rw [h0, DD_0 hG (by omega), DD_0 hG (by omega), sm_zero (fun q _ => by rw [DD_0 hG (by omega)]; split <;> simp)]
        simp
  · rw [if_neg hw, sm_zero]
    intro j hj
    have wj := hG.2.2.1 j hj
    have h0 : tI G j i m = 0 := by
      refine Classical.byContradiction (fun z => ?_)
      have a1 := tI_ne hG z
      have w4 := (hG.2.2.1 m (by omega)).2
      have w5 := hG.2.2.2.1 i j (by omega) (by omega)
      have w6 := (hG.2.2.1 i (by omega)).1
      omega
    rw [h0, DD_0 hG (by omega), DD_0 hG (by omega), sm_zero (fun q _ => by rw [DD_0 hG (by omega)]; split <;> simp)]
    simp
/-- the product in one formula: as far as letter K -/
def prodU (G : GD) (a b : Nat → Int) (K m : Nat) : Int :=
  a m + (if m < K then b m else 0) + sm (fun i => addL G a i (b i) m + sm (fun p => if p < i then sm (fun j => DD G m j p i * a j * b p * b i) (gn G) else 0) (gn G)) K
theorem addL_low (hG : GOK G) {v : Nat → Int} {i m : Nat} {y : Int} (hm : gw G m ≠ 3) : addL G v i y m = sm (fun j => tI G j i m * v j * y) (gn G) := by
  unfold addL
  refine sm_congr (fun j _ => ?_)
  rw [DD_0 hG (by omega), DD_0 hG (by omega), sm_zero (fun q _ => by rw [DD_0 hG (by omega)]; split <;> simp)]
  simp
theorem mulU_eq (hG : GOK G) {a b : Nat → Int} : ∀ K, K ≤ gn G → ∀ m, mulU G a b K m = prodU G a b K m := by
  intro K
  induction K with
  | zero => intro _ m; unfold prodU; simp [mulU, sm]
  | succ K ih =>
    intro hK m
    show TL G (mulU G a b K) K (b K) m = _
    rw [TL_eq hG (by omega), ih (by omega)]
    -- what the letters above K hold
    have hone : ∀ j, K < j → gw G j = 1 → mulU G a b K j = a j := fun j hj hw => by
      rw [mulU_one hG (by omega) K (by omega), if_neg (by omega), Int.add_zero]
    have key : addL G (mulU G a b K) K (b K) m = addL G a K (b K) m + sm (fun p => if p < K then sm (fun j => DD G m j p K * a j * b p * b K) (gn G) else 0) (gn G) := by
      have e1 : ∀ j, DD G m j K K * mulU G a b K j * two (b K) = DD G m j K K * a j * two (b K) := fun j => by
        by_cases h : DD G m j K K = 0
        · rw [h]; simp
        · have h1 : K < j ∧ gw G j = 1 := by
            refine Classical.byContradiction (fun z => h (DD_0 hG (by omega)))
          rw [hone j h1.1 h1.2]
      have e2 : ∀ j, DD G m j K j * b K * two (mulU G a b K j) = DD G m j K j * b K * two (a j) := fun j => by
        by_cases h : DD G m j K j = 0
        · rw [h]; simp
        · have h1 : K < j ∧ gw G j = 1 := by
            refine Classical.byContradiction (fun z => h (DD_0 hG (by omega)))
          rw [hone j h1.1 h1.2]
      have e3 : ∀ j q, (if j < q then DD G m j K q * mulU G a b K j * mulU G a b K q * b K else 0) = if j < q then DD G m j K q * a j * a q * b K else 0 := fun j q => by
        by_cases h0 : j < q
        · rw [if_pos h0, if_pos h0]
          by_cases h : DD G m j K q = 0
          · rw [h]; simp
          · have h1 : K < j ∧ gw G j = 1 ∧ gw G q = 1 := by
              refine Classical.byContradiction (fun z => h (DD_0 hG (by omega)))
            rw [hone j h1.1 h1.2.1, hone q (by omega) h1.2.2]
        · rw [if_neg h0, if_neg h0]
      have e4 : sm (fun j => tI G j K m * mulU G a b K j * b K) (gn G) = sm (fun j => tI G j K m * a j * b K) (gn G) + sm (fun p => if p < K then sm (fun j => DD G m j p K * a j * b p * b K) (gn G) else 0) (gn G) := by
        -- the tails' own letters
        have e5 : ∀ j, j < gn G → tI G j K m * mulU G a b K j * b K = tI G j K m * a j * b K + sm (fun p => if p < K then sm (fun z => tI G z p j * tI G j K m * a z * b p * b K) (gn G) else 0) (gn G) := by
          intro j hj
          by_cases h : tI G j K m = 0
          · rw [h, sm_zero (fun p _ => by
              split
              · exact sm_zero (fun z _ => by simp)
              · rfl)]
            simp
          · have h1 := tI_ne hG h
            have w1 := (hG.2.2.1 K (by omega)).1
            have w4 := (hG.2.2.1 m (by omega)).2
            rw [ih (by omega) j]
            unfold prodU
            rw [if_neg (by omega), Int.add_zero, Int.mul_add, Int.add_mul]
            congr 1
            have e6 : sm (fun i => addL G a i (b i) j + sm (fun p => if p < i then sm (fun z => DD G j z p i * a z * b p * b i) (gn G) else 0) (gn G)) K = sm (fun p => if p < K then sm (fun z => tI G z p j * a z * b p) (gn G) else 0) (gn G) := by
              rw [sm_tail (e := K) (n := gn G) (by omega) (fun p h2 _ => if_neg (by omega))]
              refine sm_congr (fun i hi => ?_)
              have hz : sm (fun p => if p < i then sm (fun z => DD G j z p i * a z * b p * b i) (gn G) else 0) (gn G) = 0 := sm_zero (fun p _ => by
                split
                · exact sm_zero (fun z _ => by rw [DD_0 hG (by omega)]; simp)
                · rfl)
              rw [if_pos hi, addL_low hG (by omega), hz, Int.add_zero]
            rw [e6, sm_mul, sm_mulr]
            refine sm_congr (fun p _ => ?_)
            by_cases hp : p < K
            · rw [if_pos hp, if_pos hp, sm_mul, sm_mulr]
              refine sm_congr (fun z _ => ?_)
              simp only [Int.mul_assoc, Int.mul_comm, Int.mul_left_comm]
            · rw [if_neg hp, if_neg hp]; simp
        rw [sm_congr e5, ← sm_add]
        congr 1
        rw [sm_swap]
        refine sm_congr (fun p _ => ?_)
        by_cases hp : p < K
        · simp only [if_pos hp]
          rw [sm_swap]
          refine sm_congr (fun z _ => ?_)
          unfold DD
          rw [sm_mulr, sm_mulr, sm_mulr]
        · simp only [if_neg hp]
          exact sm_zero (fun _ _ => rfl)
      have hL : addL G (mulU G a b K) K (b K) m = sm (fun j => tI G j K m * mulU G a b K j * b K) (gn G) + sm (fun j => DD G m j K K * a j * two (b K) + DD G m j K j * b K * two (a j) + sm (fun q => if j < q then DD G m j K q * a j * a q * b K else 0) (gn G)) (gn G) := by
        rw [sm_add]
        unfold addL
        exact sm_congr (fun j _ => by rw [e1, e2, sm_congr (fun q _ => e3 j q)])
      have hR : addL G a K (b K) m = sm (fun j => tI G j K m * a j * b K) (gn G) + sm (fun j => DD G m j K K * a j * two (b K) + DD G m j K j * b K * two (a j) + sm (fun q => if j < q then DD G m j K q * a j * a q * b K else 0) (gn G)) (gn G) := by
        rw [sm_add]
        rfl
      rw [hL, hR, e4]
      omega
    rw [key]
    unfold prodU
    simp only [sm]
    by_cases h1 : m = K
    · subst h1
      rw [if_neg (Nat.lt_irrefl m), if_pos rfl, if_pos (Nat.lt_succ_self m)]; omega
    · rw [if_neg h1]
      by_cases h2 : m < K
      · rw [if_pos h2, if_pos (by omega)]; omega
      · rw [if_neg h2, if_neg (by omega)]; omega
end GR
end
section
/-! who multiplies first does not matter, where the tails keep Jacobi's law -/
section AS
variable {G : GD}
def Jac (G : GD) : Prop := ∀ i l j m, i < l → l < j → j < gn G → m < gn G → DD G m j l i + DD G m l i j = DD G m j i l
theorem two_add {x y : Int} : two (x + y) = two x + two y + x * y := by
  have h : ∀ z : Int, z * (z - 1) = 2 * two z := fun z => by
    unfold two
    have : (z * (z - 1)) % 2 = 0 := by
      rw [Int.mul_emod]
      rcases (show z % 2 = 0 ∨ z % 2 = 1 by omega) with h | h
      · rw [h]; simp
      · have h2 : (z - 1) % 2 = 0 := by omega
        rw [h2]; simp
    omega
  have h1 := h x
  have h2 := h y
  have h3 := h (x + y)
  have e : (x + y) * (x + y - 1) = x * (x - 1) + y * (y - 1) + 2 * (x * y) := by
    simp only [Int.mul_sub, Int.add_mul, Int.mul_add, Int.mul_one]
    have := Int.mul_comm y x
    omega
  omega
theorem sm_delta {g : Nat → Int} {n x : Nat} (h : x < n) : sm (fun y => if x = y then g y else 0) n = g x := by
  induction n with
  | zero => omega
  | succ n ih =>
    simp only [sm]
    by_cases h1 : x = n
    · subst h1
      rw [if_pos rfl, sm_zero (fun k hk => if_neg (by omega)), Int.zero_add]
    · rw [if_neg h1, Int.add_zero, ih (by omega)]
/-- the parts of a product -/
def pT (G : GD) (m : Nat) (a b : Nat → Int) : Int := sm (fun i => sm (fun j => tI G j i m * a j * b i) (gn G)) (gn G)
def pU (G : GD) (m : Nat) (a b : Nat → Int) : Int := sm (fun i => sm (fun j => DD G m j i i * a j * two (b i)) (gn G)) (gn G)
def pV (G : GD) (m : Nat) (a b : Nat → Int) : Int := sm (fun i => sm (fun j => DD G m j i j * b i * two (a j)) (gn G)) (gn G)
def pW (G : GD) (m : Nat) (a b : Nat → Int) : Int := sm (fun i => sm (fun j => sm (fun q => if j < q then DD G m j i q * a j * a q * b i else 0) (gn G)) (gn G)) (gn G)
def pX (G : GD) (m : Nat) (a b : Nat → Int) : Int := sm (fun i => sm (fun p => if p < i then sm (fun j => DD G m j p i * a j * b p * b i) (gn G) else 0) (gn G)) (gn G)
theorem mul_eq (hG : GOK G) {a b : Nat → Int} {m : Nat} (hm : m < gn G) : mul G a b m = a m + b m + pT G m a b + pU G m a b + pV G m a b + pW G m a b + pX G m a b := by
  unfold mul
  rw [mulU_eq hG (gn G) (Nat.le_refl _)]
  unfold prodU
  rw [if_pos hm, ← sm_add]
  have e : sm (fun i => addL G a i (b i) m) (gn G) = pT G m a b + pU G m a b + pV G m a b + pW G m a b := by
    unfold addL pT pU pV pW
    rw [sm_add, sm_add, sm_add]
    refine sm_congr (fun i _ => ?_)
    rw [sm_add, sm_add, sm_add]
    exact sm_congr (fun j _ => by omega)
  rw [e]
  unfold pX
  omega
/-- what hangs on weights one alone -/
theorem DD_congr (hG : GOK G) {m j i q : Nat} {x y : Int} (h : i < j → gw G i = 1 → gw G j = 1 → gw G q = 1 → j < gn G → x = y) : DD G m j i q * x = DD G m j i q * y := by
  by_cases h1 : DD G m j i q = 0
  · rw [h1, Int.zero_mul, Int.zero_mul]
  · have h2 : i < j ∧ gw G i = 1 ∧ gw G j = 1 ∧ gw G q = 1 ∧ gw G m = 3 ∧ j < gn G := Classical.byContradiction (fun z => h1 (DD_0 hG z))
    rw [h h2.1 h2.2.1 h2.2.2.1 h2.2.2.2.1 h2.2.2.2.2.2]
theorem gn_of_one (hG : GOK G) {q : Nat} (h : gw G q = 1) : q < gn G := by
  refine Nat.lt_of_not_le (fun z => ?_)
  have := hG.2.2.2.2.1 q z
  omega
def S3 (n : Nat) (f : Nat → Nat → Nat → Int) : Int := sm (fun x => sm (fun y => sm (fun z => f x y z) n) n) n
theorem S3_add {n : Nat} {f g : Nat → Nat → Nat → Int} : S3 n f + S3 n g = S3 n (fun x y z => f x y z + g x y z) := by
  unfold S3
  rw [sm_add]
  refine sm_congr (fun x _ => ?_)
  rw [sm_add]
  refine sm_congr (fun y _ => ?_)
  rw [sm_add]
theorem S3_congr {n : Nat} {f g : Nat → Nat → Nat → Int} (h : ∀ x y z, x < n → y < n → z < n → f x y z = g x y z) : S3 n f = S3 n g :=
  sm_congr (fun x hx => sm_congr (fun y hy => sm_congr (fun z hz => h x y z hx hy hz)))
theorem S3_rot {n : Nat} {f : Nat → Nat → Nat → Int} : S3 n f = S3 n (fun x y z => f z x y) := by
  unfold S3
  rw [sm_swap]
  refine sm_congr (fun y _ => ?_)
  rw [sm_swap]
theorem S3_swap12 {n : Nat} {f : Nat → Nat → Nat → Int} : S3 n f = S3 n (fun x y z => f y x z) := sm_swap
theorem S3_swap {n : Nat} {f : Nat → Nat → Nat → Int} : S3 n f = S3 n (fun x y z => f x z y) := sm_congr (fun x _ => sm_swap)
section MC
variable {a b c : Nat → Int} {m : Nat}
theorem pT_left (hG : GOK G) (hm : m < gn G) : pT G m (mul G a b) c = pT G m a c + pT G m b c + S3 (gn G) (fun x y z => DD G m x y z * (a x * b y * c z)) := by
  have hlow : ∀ i j, j < gn G → tI G j i m * mul G a b j * c i = tI G j i m * a j * c i + tI G j i m * b j * c i + sm (fun y => sm (fun x => tI G x y j * tI G j i m * (a x * b y * c i)) (gn G)) (gn G) := by
    intro i j hj
    by_cases h : tI G j i m = 0
    · rw [h, sm_zero (fun y _ => sm_zero (fun x _ => by simp))]; simp
    · have h1 := tI_ne hG h
      have w1 := (hG.2.2.1 i (by omega)).1
      have w4 := (hG.2.2.1 m hm).2
      have z1 : pU G j a b = 0 := sm_zero (fun i _ => sm_zero (fun j _ => by rw [DD_0 hG (by omega)]; simp))
      have z2 : pV G j a b = 0 := sm_zero (fun i _ => sm_zero (fun j _ => by rw [DD_0 hG (by omega)]; simp))
      have z3 : pW G j a b = 0 := sm_zero (fun i _ => sm_zero (fun j _ => sm_zero (fun q _ => by rw [DD_0 hG (by omega)]; simp)))
      have z4 : pX G j a b = 0 := sm_zero (fun i _ => sm_zero (fun p _ => by
        split
        · exact sm_zero (fun j _ => by rw [DD_0 hG (by omega)]; simp)
        · rfl))
      rw [mul_eq hG hj, z1, z2, z3, z4, Int.add_zero, Int.add_zero, Int.add_zero, Int.add_zero, Int.mul_add, Int.mul_add, Int.add_mul, Int.add_mul]
      congr 1
      unfold pT
      rw [sm_mul, sm_mulr]
      refine sm_congr (fun y _ => ?_)
      rw [sm_mul, sm_mulr]
      refine sm_congr (fun x _ => ?_)
      simp only [Int.mul_assoc, Int.mul_comm, Int.mul_left_comm]
  unfold pT
  rw [sm_congr (fun i _ => sm_congr (hlow i))]
  have e : ∀ i, sm (fun j => tI G j i m * a j * c i + tI G j i m * b j * c i + sm (fun y => sm (fun x => tI G x y j * tI G j i m * (a x * b y * c i)) (gn G)) (gn G)) (gn G) = sm (fun j => tI G j i m * a j * c i) (gn G) + sm (fun j => tI G j i m * b j * c i) (gn G) + sm (fun y => sm (fun x => DD G m x y i * (a x * b y * c i)) (gn G)) (gn G) := by
    intro i
    rw [← sm_add, ← sm_add]
    congr 1
    rw [sm_swap]
    refine sm_congr (fun y _ => ?_)
    rw [sm_swap]
    refine sm_congr (fun x _ => ?_)
    unfold DD
    rw [sm_mulr]
  rw [sm_congr (fun i _ => e i), ← sm_add, ← sm_add]
  congr 1
  have e2 : sm (fun i => sm (fun y => sm (fun x => DD G m x y i * (a x * b y * c i)) (gn G)) (gn G)) (gn G) = S3 (gn G) (fun z y x => DD G m x y z * (a x * b y * c z)) := rfl
  rw [e2, S3_rot, S3_rot, S3_swap]
/-- weight one adds -/
theorem m1 (hG : GOK G) {j : Nat} (hw : gw G j = 1) : mul G a b j = a j + b j := mul_one hG (by omega) (gn_of_one hG hw)
theorem pT_right (hG : GOK G) (hm : m < gn G) : pT G m a (mul G b c) = pT G m a b + pT G m a c := by
  unfold pT
  rw [sm_add]
  refine sm_congr (fun i _ => ?_)
  rw [sm_add]
  refine sm_congr (fun j _ => ?_)
  by_cases h : tI G j i m = 0
  · rw [h]; simp
  · have h1 := tI_ne hG h
    have w4 := (hG.2.2.1 m hm).2
    have w5 := hG.2.2.2.1 i j (by omega) (by omega)
    have w6 := (hG.2.2.1 i (by omega)).1
    rw [m1 hG (show gw G i = 1 by omega), Int.mul_add]
theorem pU_left (hG : GOK G) : pU G m (mul G a b) c = pU G m a c + pU G m b c := by
  unfold pU
  rw [sm_add]
  refine sm_congr (fun i _ => ?_)
  rw [sm_add]
  refine sm_congr (fun j _ => ?_)
  rw [Int.mul_assoc, DD_congr hG (fun _ _ h _ _ => by rw [m1 hG h]), ← Int.mul_assoc, Int.mul_add, Int.add_mul]
theorem pU_right (hG : GOK G) : pU G m a (mul G b c) = pU G m a b + pU G m a c + S3 (gn G) (fun x y z => if y = z then DD G m x y z * (a x * b y * c z) else 0) := by
  have e : S3 (gn G) (fun x y z => if y = z then DD G m x y z * (a x * b y * c z) else 0) = sm (fun i => sm (fun j => DD G m j i i * (a j * b i * c i)) (gn G)) (gn G) := by
    unfold S3
    rw [sm_swap]
    refine sm_congr (fun i hi => ?_)
    refine sm_congr (fun j _ => ?_)
    exact sm_delta (g := fun z => DD G m j i z * (a j * b i * c z)) hi
  rw [e]
  unfold pU
  rw [sm_add, sm_add]
  refine sm_congr (fun i _ => ?_)
  rw [sm_add, sm_add]
  refine sm_congr (fun j _ => ?_)
  rw [Int.mul_assoc, DD_congr hG (y := a j * two (b i) + a j * two (c i) + a j * b i * c i) (fun _ h _ _ _ => by rw [m1 hG h, two_add, Int.mul_add, Int.mul_add, ← Int.mul_assoc (a j) (b i)]), Int.mul_add, Int.mul_add]
  simp only [Int.mul_assoc]
theorem pV_left (hG : GOK G) : pV G m (mul G a b) c = pV G m a c + pV G m b c + S3 (gn G) (fun x y z => if x = y then DD G m x z y * (a x * b y * c z) else 0) := by
  have e : S3 (gn G) (fun x y z => if x = y then DD G m x z y * (a x * b y * c z) else 0) = sm (fun i => sm (fun j => DD G m j i j * (a j * b j * c i)) (gn G)) (gn G) := by
    unfold S3
    rw [sm_swap (n := gn G) (m := gn G) (f := fun i j => DD G m j i j * (a j * b j * c i))]
    refine sm_congr (fun j hj => ?_)
    rw [sm_swap]
    refine sm_congr (fun i _ => ?_)
    exact sm_delta (g := fun y => DD G m j i y * (a j * b y * c i)) hj
  rw [e]
  unfold pV
  rw [sm_add, sm_add]
  refine sm_congr (fun i _ => ?_)
  rw [sm_add, sm_add]
  refine sm_congr (fun j _ => ?_)
  rw [Int.mul_assoc, DD_congr hG (y := c i * two (a j) + c i * two (b j) + a j * b j * c i) (fun _ _ h _ _ => by rw [m1 hG h, two_add, Int.mul_add, Int.mul_add, Int.mul_comm (c i) (a j * b j)]), Int.mul_add, Int.mul_add]
  simp only [Int.mul_assoc]
theorem pV_right (hG : GOK G) : pV G m a (mul G b c) = pV G m a b + pV G m a c := by
  unfold pV
  rw [sm_add]
  refine sm_congr (fun i _ => ?_)
  rw [sm_add]
  refine sm_congr (fun j _ => ?_)
  rw [Int.mul_assoc, DD_congr hG (y := b i * two (a j) + c i * two (a j)) (fun _ h _ _ _ => by rw [m1 hG h, Int.add_mul]), Int.mul_add, Int.mul_assoc, Int.mul_assoc]
theorem pW_left (hG : GOK G) : pW G m (mul G a b) c = pW G m a c + pW G m b c + S3 (gn G) (fun x y z => (if x < y then DD G m x z y * (a x * b y * c z) else 0) + (if y < x then DD G m y z x * (a x * b y * c z) else 0)) := by
  rw [← S3_add]
  have e1 : S3 (gn G) (fun x y z => if x < y then DD G m x z y * (a x * b y * c z) else 0) = sm (fun i => sm (fun j => sm (fun q => if j < q then DD G m j i q * (a j * b q * c i) else 0) (gn G)) (gn G)) (gn G) := (S3_rot (f := fun i j q => if j < q then DD G m j i q * (a j * b q * c i) else 0)).symm
  have e2 : S3 (gn G) (fun x y z => if y < x then DD G m y z x * (a x * b y * c z) else 0) = sm (fun i => sm (fun j => sm (fun q => if j < q then DD G m j i q * (a q * b j * c i) else 0) (gn G)) (gn G)) (gn G) := by
    have h1 := S3_rot (n := gn G) (f := fun i j q => if j < q then DD G m j i q * (a q * b j * c i) else 0)
    have h2 := S3_swap12 (n := gn G) (f := fun x y z => if x < y then DD G m x z y * (a y * b x * c z) else 0)
    exact (h1.trans h2).symm
  rw [e1, e2]
  unfold pW
  rw [sm_add, sm_add, sm_add]
  refine sm_congr (fun i _ => ?_)
  rw [sm_add, sm_add, sm_add]
  refine sm_congr (fun j _ => ?_)
  rw [sm_add, sm_add, sm_add]
  refine sm_congr (fun q _ => ?_)
  by_cases h : j < q
  · simp only [if_pos h]
    have e : DD G m j i q * mul G a b j * mul G a b q * c i = DD G m j i q * (a j * a q * c i + b j * b q * c i + (a j * b q * c i + a q * b j * c i)) := by
      rw [Int.mul_assoc, Int.mul_assoc]
      refine DD_congr hG (fun _ _ h0 h2 _ => ?_)
      rw [m1 hG h0, m1 hG h2]
      simp only [Int.add_mul, Int.mul_add, Int.mul_assoc, Int.mul_comm, Int.mul_left_comm]
      omega
    rw [e, Int.mul_add, Int.mul_add, Int.mul_add]
    simp only [Int.mul_assoc]
  · simp only [if_neg h]; rfl
theorem pW_right (hG : GOK G) : pW G m a (mul G b c) = pW G m a b + pW G m a c := by
  unfold pW
  rw [sm_add]
  refine sm_congr (fun i _ => ?_)
  rw [sm_add]
  refine sm_congr (fun j _ => ?_)
  rw [sm_add]
  refine sm_congr (fun q _ => ?_)
  by_cases h : j < q
  · simp only [if_pos h]
    rw [← Int.mul_add, Int.mul_assoc, Int.mul_assoc, Int.mul_assoc (DD G m j i q), Int.mul_assoc (DD G m j i q)]
    refine DD_congr hG (fun _ h0 _ _ _ => ?_)
    rw [m1 hG h0, Int.mul_assoc]
  · simp only [if_neg h]; rfl
theorem pX_left (hG : GOK G) : pX G m (mul G a b) c = pX G m a c + pX G m b c := by
  unfold pX
  rw [sm_add]
  refine sm_congr (fun i _ => ?_)
  rw [sm_add]
  refine sm_congr (fun p _ => ?_)
  by_cases h : p < i
  · simp only [if_pos h]
    rw [sm_add]
    refine sm_congr (fun j _ => ?_)
    simp only [Int.mul_assoc]
    rw [← Int.mul_add, ← Int.add_mul]
    refine DD_congr hG (fun _ _ h1 _ _ => ?_)
    rw [m1 hG h1]
  · simp only [if_neg h]; rfl
theorem pX_right (hG : GOK G) : pX G m a (mul G b c) = pX G m a b + pX G m a c + S3 (gn G) (fun x y z => (if y < z then DD G m x y z * (a x * b y * c z) else 0) + (if z < y then DD G m x z y * (a x * b y * c z) else 0)) := by
  rw [← S3_add]
  have e1 : S3 (gn G) (fun x y z => if y < z then DD G m x y z * (a x * b y * c z) else 0) = sm (fun i => sm (fun p => sm (fun j => if p < i then DD G m j p i * (a j * b p * c i) else 0) (gn G)) (gn G)) (gn G) := by
    have h1 := S3_rot (n := gn G) (f := fun i j p => if p < i then DD G m j p i * (a j * b p * c i) else 0)
    have h2 := S3_swap (n := gn G) (f := fun i p j => if p < i then DD G m j p i * (a j * b p * c i) else 0)
    exact (h2.trans h1).symm
  have e2 : S3 (gn G) (fun x y z => if z < y then DD G m x z y * (a x * b y * c z) else 0) = sm (fun i => sm (fun p => sm (fun j => if p < i then DD G m j p i * (a j * b i * c p) else 0) (gn G)) (gn G)) (gn G) := by
    have h1 := S3_rot (n := gn G) (f := fun i p j => if p < i then DD G m j p i * (a j * b i * c p) else 0)
    have h2 := S3_rot (n := gn G) (f := fun z x y => if x < z then DD G m y x z * (a y * b z * c x) else 0)
    have h3 := S3_rot (n := gn G) (f := fun x y z => if x < z then DD G m y x z * (a y * b z * c x) else 0)
    have h4 := S3_rot (n := gn G) (f := fun x y z => if x < z then DD G m y x z * (a y * b z * c x) else 0)
    exact (h1.trans (S3_rot (n := gn G) (f := fun x y z => if x < z then DD G m y x z * (a y * b z * c x) else 0))).symm
  rw [e1, e2]
  unfold pX
  rw [sm_add, sm_add, sm_add]
  refine sm_congr (fun i _ => ?_)
  rw [sm_add, sm_add, sm_add]
  refine sm_congr (fun p _ => ?_)
  rw [sm_add]
  by_cases h : p < i
  · simp only [if_pos h]
    rw [sm_add, sm_add]
    refine sm_congr (fun j _ => ?_)
    have e : DD G m j p i * a j * mul G b c p * mul G b c i = DD G m j p i * (a j * b p * b i + a j * c p * c i + (a j * b p * c i + a j * b i * c p)) := by
      rw [Int.mul_assoc, Int.mul_assoc]
      refine DD_congr hG (fun _ h0 _ h2 _ => ?_)
      rw [m1 hG h0, m1 hG h2]
      simp only [Int.add_mul, Int.mul_add, Int.mul_assoc, Int.mul_comm, Int.mul_left_comm]
      omega
    rw [e, Int.mul_add, Int.mul_add, Int.mul_add]
    simp only [Int.mul_assoc]
  · simp only [if_neg h]
    rw [sm_zero (f := fun k => (0 : Int) + 0) (fun j _ => rfl)]
    rfl
theorem mul_assoc' (hG : GOK G) (hJ : Jac G) (hm : m < gn G) : mul G (mul G a b) c m = mul G a (mul G b c) m := by
  rw [mul_eq hG hm (a := mul G a b), mul_eq hG hm (a := a) (b := mul G b c), mul_eq hG hm, mul_eq hG hm (a := b),
    pT_left hG hm, pT_right hG hm, pU_left hG, pU_right hG, pV_left hG, pV_right hG, pW_left hG, pW_right hG, pX_left hG, pX_right hG]
  have key : S3 (gn G) (fun x y z => DD G m x y z * (a x * b y * c z)) + S3 (gn G) (fun x y z => if x = y then DD G m x z y * (a x * b y * c z) else 0) + S3 (gn G) (fun x y z => (if x < y then DD G m x z y * (a x * b y * c z) else 0) + (if y < x then DD G m y z x * (a x * b y * c z) else 0)) = S3 (gn G) (fun x y z => if y = z then DD G m x y z * (a x * b y * c z) else 0) + S3 (gn G) (fun x y z => (if y < z then DD G m x y z * (a x * b y * c z) else 0) + (if z < y then DD G m x z y * (a x * b y * c z) else 0)) := by
    rw [S3_add, S3_add, S3_add]
    refine S3_congr (fun x y z hx hy hz => ?_)
    have z0 : ∀ j i q, ¬ i < j → DD G m j i q = 0 := fun j i q h => DD_0 hG (fun h1 => h h1.1)
    rcases Nat.lt_trichotomy y z with h | h | h
    · have f : (if x = y then DD G m x z y * (a x * b y * c z) else 0) = 0 := by
        split
        · rw [z0 x z y (by omega), Int.zero_mul]
        · rfl
      have f2 : (if x < y then DD G m x z y * (a x * b y * c z) else 0) = 0 := by
        split
        · rw [z0 x z y (by omega), Int.zero_mul]
        · rfl
      have f3 : (if y < x then DD G m y z x * (a x * b y * c z) else 0) = 0 := by
        split
        · rw [z0 y z x (by omega), Int.zero_mul]
        · rfl
      rw [f, f2, f3, if_neg (by omega : ¬ y = z), if_pos h, if_neg (by omega : ¬ z < y)]
      omega
    · subst h
      by_cases h1 : y < x
      · rw [if_neg (by omega), if_neg (by omega), if_pos h1, if_pos rfl, z0 y y x (by omega)]; simp
      · rw [z0 x y y h1]; simp [h1]
    · by_cases h1 : y < x
      · rw [if_neg (by omega), if_neg (by omega), if_pos h1, if_neg (by omega), if_neg (by omega), if_pos h, ← hJ z y x m h h1 hx hm, Int.add_mul]
        omega
      · rw [z0 x y z h1, if_neg h1, if_neg (by omega : ¬ y = z), if_neg (by omega : ¬ y < z), if_pos h]
        by_cases h2 : x = y
        · rw [if_pos h2, if_neg (by omega)]; simp
        · rw [if_neg h2, if_pos (by omega)]; simp
  omega
theorem mul_assoc (hG : GOK G) (hJ : Jac G) (a b c : Nat → Int) (m : Nat) (hm : m < gn G) : mul G (mul G a b) c m = mul G a (mul G b c) m := mul_assoc' hG hJ hm
end MC
end AS
end
section
/-! the laws of the group, where the tails keep Jacobi's law: all below the number of letters -/
theorem mulU_congr {G : GD} {a a' b b' : Nat → Int} (ha : ∀ i, i < gn G → a i = a' i) (hb : ∀ i, i < gn G → b i = b' i) : ∀ k, k ≤ gn G → ∀ m, m < gn G → mulU G a b k m = mulU G a' b' k m := by
  intro k
  induction k with
  | zero => intro _ m hm; exact ha m hm
  | succ k ih =>
    intro hk m hm
    show TL G (mulU G a b k) k (b k) m = TL G (mulU G a' b' k) k (b' k) m
    have e := ih (by omega)
    rw [hb k (by omega)]
    unfold TL
    rw [e m hm]
    congr 1
    split
    · refine sm_congr (fun j hj => ?_)
      rw [e j hj]
      by_cases h1 : k < j ∧ gw G j = 1
      · have e2 : passOne G (mulU G a b k) j k (b' k) m = passOne G (mulU G a' b' k) j k (b' k) m := by
          unfold passOne behind
          rw [e j hj]
          congr 1
          refine sm_congr (fun z hz => ?_)
          congr 2
          refine sm_congr (fun q hq => ?_)
          rw [e q hq]
        rw [e2]
      · rw [if_neg h1, if_neg h1]
    · rfl
theorem mul_congr {G : GD} {a a' b b' : Nat → Int} (ha : ∀ i, i < gn G → a i = a' i) (hb : ∀ i, i < gn G → b i = b' i) {m : Nat} (hm : m < gn G) : mul G a b m = mul G a' b' m := mulU_congr ha hb _ (Nat.le_refl _) m hm
theorem inv_beyond {G : GD} {a : Nat → Int} {m : Nat} : ∀ k, k ≤ m → invU G a k m = 0 := by
  intro k
  induction k with
  | zero => intro _; rfl
  | succ k ih =>
    intro hk
    show uV _ _ _ m = 0
    unfold uV
    rw [if_neg (by omega)]
    exact ih (by omega)
theorem invU_keep {G : GD} {a : Nat → Int} {m : Nat} : ∀ d k, m < k → invU G a (k + d) m = invU G a k m := by
  intro d
  induction d with
  | zero => intro k _; rfl
  | succ d ih =>
    intro k hk
    show uV (invU G a (k + d)) (k + d) _ m = _
    unfold uV
    rw [if_neg (by omega)]
    exact ih k hk
section GL
variable {G : GD}
/-- equal as far as the group goes -/
def EqG (G : GD) (a b : Nat → Int) : Prop := ∀ m, m < gn G → a m = b m
theorem EqG.refl {a : Nat → Int} : EqG G a a := fun _ _ => rfl
theorem EqG.symm {a b : Nat → Int} (h : EqG G a b) : EqG G b a := fun m hm => (h m hm).symm
theorem EqG.trans {a b c : Nat → Int} (h : EqG G a b) (k : EqG G b c) : EqG G a c := fun m hm => (h m hm).trans (k m hm)
theorem EqG.times {a a' b b' : Nat → Int} (h : EqG G a a') (k : EqG G b b') : EqG G (mul G a b) (mul G a' b') := fun m hm => mul_congr h k hm
theorem tI_low (hG : GOK G) {j i m : Nat} (h : ¬ (i < j ∧ j < m)) : tI G j i m = 0 := Classical.byContradiction (fun z => by have := tI_ne hG z; omega)
theorem DD_low (hG : GOK G) {m j i q : Nat} (h : m ≤ i ∨ m ≤ j ∨ m ≤ q) : DD G m j i q = 0 := by
  unfold DD
  refine sm_zero (fun k _ => ?_)
  by_cases h1 : tI G k q m = 0
  · rw [h1, Int.mul_zero]
  · have a1 := tI_ne hG h1
    rw [tI_low hG (by omega), Int.zero_mul]
/-- the place m of a product hangs on what lies below m, and adds what lies at m -/
theorem mul_below (hG : GOK G) {a x x' : Nat → Int} {m : Nat} (hm : m < gn G) (h : ∀ i, i < m → x i = x' i) : mul G a x m - x m = mul G a x' m - x' m := by
  rw [mul_eq hG hm, mul_eq hG hm]
  have e1 : pT G m a x = pT G m a x' := sm_congr (fun i _ => sm_congr (fun j _ => by
    by_cases hi : i < m
    · rw [h i hi]
    · rw [tI_low hG (by omega)]; simp))
  have e2 : pU G m a x = pU G m a x' := sm_congr (fun i _ => sm_congr (fun j _ => by
    by_cases hi : i < m
    · rw [h i hi]
    · rw [DD_low hG (by omega)]; simp))
  have e3 : pV G m a x = pV G m a x' := sm_congr (fun i _ => sm_congr (fun j _ => by
    by_cases hi : i < m
    · rw [h i hi]
    · rw [DD_low hG (by omega)]; simp))
  have e4 : pW G m a x = pW G m a x' := sm_congr (fun i _ => sm_congr (fun j _ => sm_congr (fun q _ => by
    by_cases hi : i < m
    · rw [h i hi]
    · rw [DD_low hG (by omega)]; simp)))
  have e5 : pX G m a x = pX G m a x' := sm_congr (fun i _ => sm_congr (fun p _ => by
    by_cases hi : p < i
    · rw [if_pos hi, if_pos hi]
      refine sm_congr (fun j _ => ?_)
      by_cases hi2 : i < m
      · rw [h i hi2, h p (by omega)]
      · rw [DD_low hG (by omega)]; simp
    · rw [if_neg hi, if_neg hi]))
  omega
def O : Nat → Int := fun _ => 0
theorem mul_O (hG : GOK G) {a : Nat → Int} : EqG G (mul G a O) a := fun m hm => by
  rw [mul_eq hG hm]
  have e1 : pT G m a O = 0 := sm_zero (fun i _ => sm_zero (fun j _ => by simp [O]))
  have e2 : pU G m a O = 0 := sm_zero (fun i _ => sm_zero (fun j _ => by simp [O, two]))
  have e3 : pV G m a O = 0 := sm_zero (fun i _ => sm_zero (fun j _ => by simp [O]))
  have e4 : pW G m a O = 0 := sm_zero (fun i _ => sm_zero (fun j _ => sm_zero (fun q _ => by simp [O])))
  have e5 : pX G m a O = 0 := sm_zero (fun i _ => sm_zero (fun p _ => by
    split
    · exact sm_zero (fun j _ => by simp [O])
    · rfl))
  have e6 : O m = 0 := rfl
  omega
theorem O_mul (hG : GOK G) {b : Nat → Int} : EqG G (mul G O b) b := fun m hm => by
  rw [mul_eq hG hm]
  have e1 : pT G m O b = 0 := sm_zero (fun i _ => sm_zero (fun j _ => by simp [O]))
  have e2 : pU G m O b = 0 := sm_zero (fun i _ => sm_zero (fun j _ => by simp [O]))
  have e3 : pV G m O b = 0 := sm_zero (fun i _ => sm_zero (fun j _ => by simp [O, two]))
  have e4 : pW G m O b = 0 := sm_zero (fun i _ => sm_zero (fun j _ => sm_zero (fun q _ => by simp [O])))
  have e5 : pX G m O b = 0 := sm_zero (fun i _ => sm_zero (fun p _ => by
    split
    · exact sm_zero (fun j _ => by simp [O])
    · rfl))
  have e6 : O m = 0 := rfl
  omega
theorem mul_inv (hG : GOK G) {a : Nat → Int} : EqG G (mul G a (inv G a)) O := fun m hm => by
  have h0 : inv G a m = -(mul G a (invU G a m) m) := by
    have h1 := invU_keep (G := G) (a := a) (m := m) (gn G - (m + 1)) (m + 1) (Nat.lt_succ_self m)
    rw [show m + 1 + (gn G - (m + 1)) = gn G from by omega] at h1
    show invU G a (gn G) m = _
    rw [h1]
    show uV (invU G a m) m _ m = _
    unfold uV
    rw [if_pos rfl]
  have h2 : invU G a m m = 0 := inv_beyond m (Nat.le_refl m)
  have h3 := mul_below hG (a := a) (x := inv G a) (x' := invU G a m) hm (fun i hi => by
    have h1 := invU_keep (G := G) (a := a) (m := i) (gn G - (i + 1)) (i + 1) (Nat.lt_succ_self i)
    have h4 := invU_keep (G := G) (a := a) (m := i) (m - (i + 1)) (i + 1) (Nat.lt_succ_self i)
    rw [show i + 1 + (gn G - (i + 1)) = gn G from by omega] at h1
    rw [show i + 1 + (m - (i + 1)) = m from by omega] at h4
    exact h1.trans h4.symm)
  show _ = 0
  omega
section JG
theorem massoc (hG : GOK G) (hJ : Jac G) {a b c : Nat → Int} : EqG G (mul G (mul G a b) c) (mul G a (mul G b c)) := fun m hm => mul_assoc hG hJ a b c m hm
theorem inv_mul (hG : GOK G) (hJ : Jac G) {a : Nat → Int} : EqG G (mul G (inv G a) a) O := by
  have h1 : EqG G (mul G (mul G (inv G a) a) (mul G (inv G a) (inv G (inv G a)))) (mul G (inv G a) a) := (EqG.refl.times (mul_inv hG)).trans (mul_O hG)
  refine h1.symm.trans ?_
  refine (massoc hG hJ).trans ?_
  refine (EqG.refl.times ((massoc hG hJ).symm.trans ((mul_inv hG).times EqG.refl))).trans ?_
  exact (EqG.refl.times (O_mul hG)).trans (mul_inv hG)
theorem mul_left_cancel (hG : GOK G) (hJ : Jac G) {a b c : Nat → Int} (h : EqG G (mul G a b) (mul G a c)) : EqG G b c := by
  have e : ∀ x, EqG G (mul G (inv G a) (mul G a x)) x := fun x => ((massoc hG hJ).symm.trans ((inv_mul hG hJ).times EqG.refl)).trans (O_mul hG)
  exact (e b).symm.trans ((EqG.refl.times h).trans (e c))
theorem mul_right_cancel (hG : GOK G) (hJ : Jac G) {a b c : Nat → Int} (h : EqG G (mul G b a) (mul G c a)) : EqG G b c := by
  have e : ∀ x, EqG G (mul G (mul G x a) (inv G a)) x := fun x => ((massoc hG hJ).trans (EqG.refl.times (mul_inv hG))).trans (mul_O hG)
  exact (e b).symm.trans ((h.times EqG.refl).trans (e c))
theorem inv_unique (hG : GOK G) (hJ : Jac G) {a b : Nat → Int} (h : EqG G (mul G a b) O) : EqG G b (inv G a) := mul_left_cancel hG hJ (h.trans (mul_inv hG).symm)
theorem inv_prod (hG : GOK G) (hJ : Jac G) {a b : Nat → Int} : EqG G (inv G (mul G a b)) (mul G (inv G b) (inv G a)) := by
  refine (inv_unique hG hJ ?_).symm
  refine (massoc hG hJ).trans ?_
  refine (EqG.refl.times ((massoc hG hJ).symm.trans (((mul_inv hG).times EqG.refl).trans (O_mul hG)))).trans ?_
  exact mul_inv hG
theorem inv_inv (hG : GOK G) (hJ : Jac G) {a : Nat → Int} : EqG G (inv G (inv G a)) a := (inv_unique hG hJ (inv_mul hG hJ)).symm
end JG
theorem EqG.invs (hG : GOK G) {a b : Nat → Int} (h : EqG G a b) : EqG G (inv G a) (inv G b) := by
  have key : ∀ m, m ≤ gn G → ∀ i, i < m → inv G a i = inv G b i := by
    intro m
    induction m with
    | zero => intro _ i hi; omega
    | succ m ih =>
      intro hm i hi
      by_cases h1 : i < m
      · exact ih (by omega) i h1
      · have hi2 : i = m := by omega
        subst hi2
        have h2 := mul_inv hG (a := a) i (by omega)
        have h3 := mul_inv hG (a := b) i (by omega)
        have h4 := mul_below hG (a := b) (x := inv G a) (x' := inv G b) (show i < gn G by omega) (fun k hk => ih (by omega) k hk)
        have h5 : mul G a (inv G a) i = mul G b (inv G a) i := mul_congr h (fun _ _ => rfl) (by omega)
        omega
  exact fun m hm => key (m + 1) hm m (Nat.lt_succ_self m)
end GL
end
section
/-! the class's rows of longs and its tables of binomials -/
/-- only rows of longs of a kind have changed -/
def OL (P : Nat → Prop) (σ τ : Mem) : Prop := τ.1 = σ.1 ∧ ∀ x, ¬ P x → τ.2 x = σ.2 x
theorem OL.refl {P : Nat → Prop} {σ : Mem} : OL P σ σ := ⟨rfl, fun _ _ => rfl⟩
theorem OL.trans {P : Nat → Prop} {σ τ υ : Mem} (h1 : OL P σ τ) (h2 : OL P τ υ) : OL P σ υ := ⟨h2.1.trans h1.1, fun x hx => (h2.2 x hx).trans (h1.2 x hx)⟩
theorem OL.mono {P Q : Nat → Prop} {σ τ : Mem} (h : OL P σ τ) (hPQ : ∀ x, P x → Q x) : OL Q σ τ := ⟨h.1, fun x hx => h.2 x (fun q => hx (hPQ x q))⟩
theorem OL.wL {P : Nat → Prop} {σ : Mem} {a k : Nat} {v : Int64} (h : P a) : OL P σ (wL σ a k v) := ⟨rfl, fun x hx => funext (fun y => if_neg (fun q => hx (by rw [q.1]; exact h)))⟩
/-- a row that holds six whole numbers -/
def H6 (σ : Mem) (a : Nat) (v : Nat → Int) : Prop := ∀ k, k < 6 → σ.2 a k = oi (v k)
theorem H6.keep {P : Nat → Prop} {σ τ : Mem} {a : Nat} {v : Nat → Int} (h : H6 σ a v) (ho : OL P σ τ) (hn : ¬ P a) : H6 τ a v := fun k hk => by rw [ho.2 a hn]; exact h k hk
/-- a table of binomials: 1, x, x over 2 (of weight one) for each of twelve -/
def Tb (G : GD) (σ : Mem) (t : Nat) (x : Nat → Int) : Prop := ∀ v, v < 12 → σ.2 t (4 * v) = oi 1 ∧ σ.2 t (4 * v + 1) = oi (x v) ∧ (gw G (v % 6) = 1 → σ.2 t (4 * v + 2) = oi (two (x v)))
/-- up to a number of variables -/
def TbU (G : GD) (σ : Mem) (t : Nat) (x : Nat → Int) (p : Nat → Prop) : Prop := ∀ v, v < 12 → p v → σ.2 t (4 * v) = oi 1 ∧ σ.2 t (4 * v + 1) = oi (x v) ∧ (gw G (v % 6) = 1 → σ.2 t (4 * v + 2) = oi (two (x v)))
theorem c_put {G : GD} {σ : Mem} {t v : Nat} {y : Int} (ht : ln t = 64) (hv : v < 12) (hy : gw G (v % 6) = 1 → two64ok y) :
    ∃ τ, f_X4_put σ t (i32 v) (oi y) = some τ ∧ OL (fun x => x = t) σ τ ∧ (τ.2 t (4 * v) = oi 1 ∧ τ.2 t (4 * v + 1) = oi y ∧ (gw G (v % 6) = 1 → τ.2 t (4 * v + 2) = oi (two y))) ∧ (∀ u, u ≠ v → τ.2 t (4 * u) = σ.2 t (4 * u) ∧ τ.2 t (4 * u + 1) = σ.2 t (4 * u + 1) ∧ τ.2 t (4 * u + 2) = σ.2 t (4 * u + 2)) := by
  unfold f_X4_put
  have h4 : (4 : Int32) * i32 v = i32 (4 * v) := by rw [i32_4, i32_mul]
  rw [e_bd, h4, if_neg (show ¬ i32 (4 * v) < 0 from i_nlt (b := 0) (Nat.zero_le _) (by omega)), i32_2, i32_add, ht, if_pos (show i32 (4 * v + 2) < Int32.ofNat 64 from i_lt (b := 64) (by omega) (by omega)), e_pL ht (by omega) (by omega), i32_1, i32_add, e_pL ht (by omega) (by omega), e_nzL (by decide), e_pL ht (by omega) (by omega)]
  refine ⟨_, rfl, ?_, ⟨?_, ?_, fun hw => ?_⟩, fun u hu => ⟨?_, ?_, ?_⟩⟩
  · exact ((OL.wL (P := fun x => x = t) rfl).trans (OL.wL rfl)).trans (OL.wL rfl)
  · rw [wL_2, if_neg (by omega), wL_2, if_neg (by omega), wL_2, if_pos ⟨rfl, rfl⟩]; rfl
  · rw [wL_2, if_neg (by omega), wL_2, if_pos ⟨rfl, rfl⟩]
  · rw [wL_2, if_pos ⟨rfl, rfl⟩]
    have := hy hw
    exact two_ok this.1 this.2
  · rw [wL_2, if_neg (by omega), wL_2, if_neg (by omega), wL_2, if_neg (by omega)]
  · rw [wL_2, if_neg (by omega), wL_2, if_neg (by omega), wL_2, if_neg (by omega)]
  · rw [wL_2, if_neg (by omega), wL_2, if_neg (by omega), wL_2, if_neg (by omega)]
/-- the polynomials that the class holds tell the product -/
def PolyOK (G : GD) (σ : Mem) : Prop := ∀ k, k < 6 → ∀ (τ : Mem) (t : Nat) (x : Nat → Int), τ.1 (48 + 4 * k) = σ.1 (48 + 4 * k) → τ.1 (49 + 4 * k) = σ.1 (49 + 4 * k) → τ.2 (50 + 4 * k) = σ.2 (50 + 4 * k) → τ.1 (51 + 4 * k) = σ.1 (51 + 4 * k) → ln t = 64 → TbU G τ t x (fun v => v % 6 ≤ k) →
  f_X9_value τ (48 + 4 * k) t = some (oi (if k < gn G then mul G x (fun i => x (6 + i)) k else 0))
/-- a row of longs outside the polynomials -/
def notSum (x : Nat) : Prop := ∀ k, k < 6 → x ≠ 50 + 4 * k
theorem PolyOK.keep {G : GD} {P : Nat → Prop} {σ τ : Mem} (h : PolyOK G σ) (ho : OL P σ τ) (hP : ∀ x, P x → notSum x) : PolyOK G τ := fun k hk υ t x h1 h2 h3 h4 ht hT =>
  h k hk υ t x (by rw [h1, ho.1]) (by rw [h2, ho.1]) (by rw [h3, ho.2 _ (fun q => hP _ q k hk rfl)]) (by rw [h4, ho.1]) ht hT
theorem PolyOK.value {G : GD} {σ : Mem} (h : PolyOK G σ) {k t : Nat} {x : Nat → Int} (hk : k < 6) (ht : ln t = 64) (hT : Tb G σ t x) : f_X9_value σ (48 + 4 * k) t = some (oi (if k < gn G then mul G x (fun i => x (6 + i)) k else 0)) := h k hk σ t x rfl rfl rfl rfl ht (fun v hv _ => hT v hv)
theorem PolyOK.valueU {G : GD} {σ : Mem} (h : PolyOK G σ) {k t : Nat} {x : Nat → Int} (hk : k < 6) (ht : ln t = 64) (hT : TbU G σ t x (fun v => v % 6 ≤ k)) : f_X9_value σ (48 + 4 * k) t = some (oi (if k < gn G then mul G x (fun i => x (6 + i)) k else 0)) := h k hk σ t x rfl rfl rfl rfl ht hT
theorem rf_44 {k : Nat} (h : k < 6) : rf 44 k = 48 + 4 * k := by
  have h1 : (List.range 6).all (fun k => rf 44 k == 48 + 4 * k) = true := by decide +kernel
  have h2 := List.all_eq_true.mp h1 k (List.mem_range.mpr h)
  exact eq_of_beq h2
/-- an element's numbers: 0 beyond the last generator -/
def Z6 (G : GD) (a : Nat → Int) : Prop := ∀ k, gn G ≤ k → k < 6 → a k = 0
def W1 (G : GD) (a : Nat → Int) : Prop := ∀ k, k < 6 → gw G k = 1 → two64ok (a k)
theorem mul_beyond {G : GD} (hG : GOK G) {a b : Nat → Int} {m : Nat} (hm : gn G ≤ m) : mul G a b m = a m := by
  have hw : gw G m ≤ 1 := by rw [hG.2.2.2.2.1 m hm]; omega
  unfold mul
  rw [mulU_one hG hw (gn G) (Nat.le_refl _), if_neg (by omega), Int.add_zero]
/-- two elements as twelve numbers -/
def two6 (a b : Nat → Int) : Nat → Int := fun v => if v < 6 then a v else b (v - 6)
section CP
variable {G : GD} {σ : Mem}
/-- the first loop of a product: the table -/
theorem c_prod3 (hG : GOK G) {a b : Nat} {A B : Nat → Int} (ha : ln a = 6) (hb : ln b = 6) (hA : H6 σ a A) (hB : H6 σ b B) (ha3 : a ≠ 73) (hb3 : b ≠ 73) (wA : W1 G A) (wB : W1 G B) :
    ∃ τ, loopO (fun (z8 : Mem × Int32) => l_X0_product_3 a b z8.1 z8.2) (σ, 0) = some τ ∧ OL (fun x => x = 73) σ τ ∧ Tb G τ 73 (two6 A B) := by
  have hl := loop_inv (body := fun (z8 : Mem × Int32) => l_X0_product_3 a b z8.1 z8.2) (fun n z => ∃ k τ, k ≤ 6 ∧ n = 6 - k ∧ z = (τ, i32 k) ∧ OL (fun x => x = 73) σ τ ∧ TbU G τ 73 (two6 A B) (fun v => v % 6 < k)) (fun τ => OL (fun x => x = 73) σ τ ∧ Tb G τ 73 (two6 A B)) ?_ 6 (σ, 0) ⟨0, σ, by omega, rfl, rfl, OL.refl, fun v _ h => absurd h (Nat.not_lt_zero _)⟩
  · exact hl
  · rintro n z ⟨k, τ, hk, hn, rfl, ho, hT⟩
    by_cases hk6 : k = 6
    · right
      refine ⟨τ, ?_, ho, fun v hv => hT v hv (by omega)⟩
      show l_X0_product_3 _ _ _ _ = _
      unfold l_X0_product_3
      rw [hk6, i32_6, if_pos (i_le (Nat.le_refl 6) (by omega))]
    · left
      obtain ⟨τ1, p1, o1, s1, r1⟩ := c_put (G := G) (σ := τ) (t := 73) (v := k) (y := A k) ln_73 (by omega) (fun h => wA k (by omega) (by rwa [Nat.mod_eq_of_lt (by omega)] at h))
      obtain ⟨τ2, p2, o2, s2, r2⟩ := c_put (G := G) (σ := τ1) (t := 73) (v := 6 + k) (y := B k) ln_73 (by omega) (fun h => wB k (by omega) (by rwa [show (6 + k) % 6 = k by omega] at h))
      have oo : OL (fun x => x = 73) σ τ1 := ho.trans o1
      refine ⟨(τ2, i32 (k + 1)), 6 - (k + 1), by omega, ?_, k + 1, τ2, by omega, rfl, rfl, oo.trans o2, fun v hv hvk => ?_⟩
      · show l_X0_product_3 _ _ _ _ = _
        unfold l_X0_product_3
        rw [i32_6, if_neg (i_nle (by omega) (by omega)), e_gL ha (by omega) (by omega), hA.keep ho ha3 k (by omega), p1, e_bs, e_gL hb (by omega) (by omega), hB.keep oo hb3 k (by omega), i32_add, p2, e_bs, i32_1, i32_add]
      · by_cases h1 : v = 6 + k
        · subst h1
          have e : two6 A B (6 + k) = B k := by unfold two6; rw [if_neg (by omega)]; congr 1; omega
          rw [e]; exact s2
        · obtain ⟨q1, q2, q3⟩ := r2 v h1
          rw [q1, q2, q3]
          by_cases h2 : v = k
          · subst h2
            have e : two6 A B v = A v := by unfold two6; rw [if_pos (by omega)]
            rw [e]; exact s1
          · obtain ⟨u1, u2, u3⟩ := r1 v h2
            rw [u1, u2, u3]
            exact hT v hv (by show v % 6 < k; omega)
theorem c_product (hG : GOK G) (hP : PolyOK G σ) {out a b : Nat} {A B : Nat → Int} (hout : ln out = 6) (ha : ln a = 6) (hb : ln b = 6) (hA : H6 σ a A) (hB : H6 σ b B) (ho3 : out ≠ 73) (hos : notSum out) (ha3 : a ≠ 73) (hb3 : b ≠ 73) (wA : W1 G A) (wB : W1 G B) (zA : Z6 G A) :
    ∃ τ, f_X0_product σ out a b = some τ ∧ OL (fun x => x = 73 ∨ x = out) σ τ ∧ H6 τ out (mul G A B) := by
  unfold f_X0_product
  obtain ⟨τ0, e0, o0, T0⟩ := c_prod3 hG ha hb hA hB ha3 hb3 wA wB
  rw [e0, e_bs]
  unfold j_X0_product_45
  have ns73 : notSum 73 := fun k hk => by omega
  have hP0 := hP.keep o0 (fun x hx => by rw [hx]; exact ns73)
  have hl := loop_inv (body := fun (z3 : Mem × Int32) => l_X0_product_48 out z3.1 z3.2) (fun n z => ∃ k τ, k ≤ 6 ∧ n = 6 - k ∧ z = (τ, i32 k) ∧ OL (fun x => x = out) τ0 τ ∧ ∀ i, i < k → τ.2 out i = oi (mul G A B i)) (fun τ => OL (fun x => x = out) τ0 τ ∧ ∀ i, i < 6 → τ.2 out i = oi (mul G A B i)) ?_ 6 (τ0, 0) ⟨0, τ0, by omega, rfl, rfl, OL.refl, fun i h => absurd h (Nat.not_lt_zero _)⟩
  · obtain ⟨τ, h1, h2, h3⟩ := hl
    exact ⟨τ, h1, (o0.mono (fun x hx => Or.inl hx)).trans (h2.mono (fun x hx => Or.inr hx)), h3⟩
  · rintro n z ⟨k, τ, hk, hn, rfl, ho, hv⟩
    by_cases hk6 : k = 6
    · right
      refine ⟨τ, ?_, ho, fun i hi => hv i (by omega)⟩
      show l_X0_product_48 _ _ _ = _
      unfold l_X0_product_48
      rw [hk6, i32_6, if_pos (i_le (Nat.le_refl 6) (by omega))]
    · left
      have hTk : Tb G τ 73 (two6 A B) := fun v hv => by rw [ho.2 73 (fun q => ho3 q.symm)]; exact T0 v hv
      refine ⟨(wL τ out k (oi (mul G A B k)), i32 (k + 1)), 6 - (k + 1), by omega, ?_, k + 1, _, by omega, rfl, rfl, ho.trans (OL.wL rfl), fun i hi => ?_⟩
      · show l_X0_product_48 _ _ _ = _
        unfold l_X0_product_48
        have hval : (if k < gn G then mul G (two6 A B) (fun i => two6 A B (6 + i)) k else 0) = mul G A B k := by
          have hn := hG.2.1
          by_cases h1 : k < gn G
          · rw [if_pos h1]
            refine mul_congr (fun i hi => ?_) (fun i hi => ?_) h1
            · unfold two6; rw [if_pos (by omega)]
            · show two6 A B (6 + i) = B i
              unfold two6; rw [if_neg (by omega)]; congr 1; omega
          · rw [if_neg h1, mul_beyond hG (by omega), zA k (by omega) (by omega)]
        rw [i32_6, if_neg (i_nle (by omega) (by omega)), e_gR ln_44 (by omega) (by omega), rf_44 (by omega), (hP0.keep ho (fun x hx => by rw [hx]; exact hos)).value (by omega) ln_73 hTk, e_bs, hval, e_pL hout (by omega) (by omega), i32_1, i32_add]
      · rw [wL_2]
        by_cases h1 : i = k
        · rw [if_pos ⟨rfl, h1⟩, h1]
        · rw [if_neg (fun q => h1 q.2)]; exact hv i (by omega)
/-- an inverse, exponent by exponent -/
theorem c_inv2 (hG : GOK G) {a : Nat} {A : Nat → Int} (ha : ln a = 6) (hA : H6 σ a A) (ha3 : a ≠ 73) (wA : W1 G A) :
    ∃ τ, loopO (fun (z10 : Mem × Int32) => l_X0_inverse_2 a z10.1 z10.2) (σ, 0) = some τ ∧ OL (fun x => x = 73) σ τ ∧ Tb G τ 73 (two6 A (fun _ => 0)) := by
  have hl := loop_inv (body := fun (z10 : Mem × Int32) => l_X0_inverse_2 a z10.1 z10.2) (fun n z => ∃ k τ, k ≤ 6 ∧ n = 6 - k ∧ z = (τ, i32 k) ∧ OL (fun x => x = 73) σ τ ∧ TbU G τ 73 (two6 A (fun _ => 0)) (fun v => v % 6 < k)) (fun τ => OL (fun x => x = 73) σ τ ∧ Tb G τ 73 (two6 A (fun _ => 0))) ?_ 6 (σ, 0) ⟨0, σ, by omega, rfl, rfl, OL.refl, fun v _ h => absurd h (Nat.not_lt_zero _)⟩
  · exact hl
  · rintro n z ⟨k, τ, hk, hn, rfl, ho, hT⟩
    by_cases hk6 : k = 6
    · right
      refine ⟨τ, ?_, ho, fun v hv => hT v hv (by omega)⟩
      show l_X0_inverse_2 _ _ _ = _
      unfold l_X0_inverse_2
      rw [hk6, i32_6, if_pos (i_le (Nat.le_refl 6) (by omega))]
    · left
      obtain ⟨τ1, p1, o1, s1, r1⟩ := c_put (G := G) (σ := τ) (t := 73) (v := k) (y := A k) ln_73 (by omega) (fun h => wA k (by omega) (by rwa [Nat.mod_eq_of_lt (by omega)] at h))
      obtain ⟨τ2, p2, o2, s2, r2⟩ := c_put (G := G) (σ := τ1) (t := 73) (v := 6 + k) (y := 0) ln_73 (by omega) (fun _ => ⟨by omega, by omega⟩)
      have oo : OL (fun x => x = 73) σ τ1 := ho.trans o1
      refine ⟨(τ2, i32 (k + 1)), 6 - (k + 1), by omega, ?_, k + 1, τ2, by omega, rfl, rfl, oo.trans o2, fun v hv hvk => ?_⟩
      · show l_X0_inverse_2 _ _ _ = _
        unfold l_X0_inverse_2
        rw [i32_6, if_neg (i_nle (by omega) (by omega)), e_gL ha (by omega) (by omega), hA.keep ho ha3 k (by omega), p1, e_bs, i32_add, show (0 : Int64) = oi 0 from rfl, p2, e_bs, i32_1, i32_add]
      · by_cases h1 : v = 6 + k
        · subst h1
          have e : two6 A (fun _ => 0) (6 + k) = 0 := by unfold two6; rw [if_neg (by omega)]
          rw [e]; exact s2
        · obtain ⟨q1, q2, q3⟩ := r2 v h1
          rw [q1, q2, q3]
          by_cases h2 : v = k
          · subst h2
            have e : two6 A (fun _ => 0) v = A v := by unfold two6; rw [if_pos (by omega)]
            rw [e]; exact s1
          · obtain ⟨u1, u2, u3⟩ := r1 v h2
            rw [u1, u2, u3]
            exact hT v hv (by show v % 6 < k; omega)
theorem c_inverse (hG : GOK G) (hP : PolyOK G σ) {out a : Nat} {A : Nat → Int} (hout : ln out = 6) (ha : ln a = 6) (hA : H6 σ a A) (ho3 : out ≠ 73) (hos : notSum out) (ha3 : a ≠ 73) (wA : W1 G A) :
    ∃ τ, f_X0_inverse σ out a = some τ ∧ OL (fun x => x = 73 ∨ x = out) σ τ ∧ H6 τ out (inv G A) := by
  have hn := hG.2.1
  unfold f_X0_inverse
  obtain ⟨τ0, e0, o0, T0⟩ := c_inv2 hG ha hA ha3 wA
  rw [e0, e_bs]
  unfold j_X0_inverse_37
  have ns73 : notSum 73 := fun k hk => by omega
  have hPO : ∀ τ, OL (fun x => x = 73 ∨ x = out) σ τ → PolyOK G τ := fun τ ho => hP.keep ho (fun x hx => by
    rcases hx with hx | hx
    · rw [hx]; exact ns73
    · rw [hx]; exact hos)
  -- the numbers: as far as k, of the generators alone
  have hcut : ∀ k, k ≤ 6 → ∀ i, i < 6 → invU G A (min k (gn G)) i = if i < k then inv G A i else 0 := by
    intro k hk i hi
    by_cases h1 : i < k
    · rw [if_pos h1]
      unfold inv
      by_cases h2 : i < gn G
      · have : ∃ d, gn G = min k (gn G) + d := ⟨gn G - min k (gn G), by omega⟩
        obtain ⟨d, hd⟩ := this
        have e := invU_keep (G := G) (a := A) (m := i) d (min k (gn G)) (by omega)
        rw [← hd] at e
        exact e.symm
      · rw [inv_beyond _ (by omega), inv_beyond _ (by omega)]
    · rw [if_neg h1, inv_beyond _ (by omega)]
  have hl := loop_inv (body := fun (z3 : Mem × Int32) => l_X0_inverse_39 out z3.1 z3.2) (fun n z => ∃ k τ, k ≤ 6 ∧ n = 6 - k ∧ z = (τ, i32 k) ∧ OL (fun x => x = 73 ∨ x = out) σ τ ∧ (∀ i, i < k → τ.2 out i = oi (inv G A i)) ∧ Tb G τ 73 (two6 A (fun i => if i < k then inv G A i else 0))) (fun τ => OL (fun x => x = 73 ∨ x = out) σ τ ∧ ∀ i, i < 6 → τ.2 out i = oi (inv G A i)) ?_ 6 (τ0, 0) ⟨0, τ0, by omega, rfl, rfl, o0.mono (fun x hx => Or.inl hx), fun i h => absurd h (Nat.not_lt_zero _), by
      have e : (fun i => if i < 0 then inv G A i else 0) = fun _ => (0 : Int) := funext (fun i => if_neg (Nat.not_lt_zero i))
      rw [e]; exact T0⟩
  · exact hl
  · rintro n z ⟨k, τ, hk, hnk, rfl, ho, hv, hT⟩
    by_cases hk6 : k = 6
    · right
      refine ⟨τ, ?_, ho, fun i hi => hv i (by omega)⟩
      show l_X0_inverse_39 _ _ _ = _
      unfold l_X0_inverse_39
      rw [hk6, i32_6, if_pos (i_le (Nat.le_refl 6) (by omega))]
    · left
      have hval : -(if k < gn G then mul G (two6 A (fun i => if i < k then inv G A i else 0)) (fun i => two6 A (fun i => if i < k then inv G A i else 0) (6 + i)) k else 0) = inv G A k := by
        by_cases h1 : k < gn G
        · rw [if_pos h1]
          have e1 : mul G (two6 A (fun i => if i < k then inv G A i else 0)) (fun i => two6 A (fun i => if i < k then inv G A i else 0) (6 + i)) k = mul G A (invU G A k) k := by
            refine mul_congr (fun i hi => ?_) (fun i hi => ?_) h1
            · unfold two6; rw [if_pos (by omega)]
            · show two6 A _ (6 + i) = _
              unfold two6
              rw [if_neg (by omega), show 6 + i - 6 = i by omega]
              have := hcut k (by omega) i (by omega)
              rw [Nat.min_eq_left (by omega)] at this
              exact this.symm
          rw [e1]
          have e2 := invU_keep (G := G) (a := A) (m := k) (gn G - (k + 1)) (k + 1) (Nat.lt_succ_self k)
          rw [show k + 1 + (gn G - (k + 1)) = gn G by omega] at e2
          unfold inv
          rw [e2]
          show _ = uV _ k _ k
          unfold uV
          rw [if_pos rfl]
        · rw [if_neg h1]
          unfold inv
          rw [inv_beyond _ (by omega)]; rfl
      obtain ⟨τ2, p2, o2, s2, r2⟩ := c_put (G := G) (σ := wL τ out k (oi (inv G A k))) (t := 73) (v := 6 + k) (y := inv G A k) ln_73 (by omega) (fun h => by
        rw [show (6 + k) % 6 = k by omega] at h
        by_cases h1 : k < gn G
        · rw [inv_one hG (by omega) h1]
          have := wA k (by omega) h
          exact ⟨by have := this.2; omega, by have := this.1; omega⟩
        · rw [hG.2.2.2.2.1 k (by omega)] at h; omega)
      have o1 : OL (fun x => x = 73 ∨ x = out) τ (wL τ out k (oi (inv G A k))) := OL.wL (Or.inr rfl)
      refine ⟨(τ2, i32 (k + 1)), 6 - (k + 1), by omega, ?_, k + 1, τ2, by omega, rfl, rfl, (ho.trans o1).trans (o2.mono (fun x hx => Or.inl hx)), fun i hi => ?_, fun v hv2 => ?_⟩
      · show l_X0_inverse_39 _ _ _ = _
        unfold l_X0_inverse_39
        rw [i32_6, if_neg (i_nle (by omega) (by omega)), e_gR ln_44 (by omega) (by omega), rf_44 (by omega), (hPO τ ho).value (by omega) ln_73 hT, e_bs, oi_neg, hval, e_pL hout (by omega) (by omega), e_gL hout (by omega) (by omega), wL_2, if_pos ⟨rfl, rfl⟩, i32_add, p2, e_bs, i32_1, i32_add]
      · rw [o2.2 out ho3, wL_2]
        by_cases h1 : i = k
        · rw [if_pos ⟨rfl, h1⟩, h1]
        · rw [if_neg (fun q => h1 q.2)]; exact hv i (by omega)
      · by_cases h1 : v = 6 + k
        · subst h1
          have e : two6 A (fun i => if i < k + 1 then inv G A i else 0) (6 + k) = inv G A k := by
            unfold two6
            rw [if_neg (by omega), show 6 + k - 6 = k by omega]
            exact if_pos (Nat.lt_succ_self k)
          rw [e]; exact s2
        · obtain ⟨q1, q2, q3⟩ := r2 v h1
          have hne : ∀ y, (wL τ out k (oi (inv G A k))).2 73 y = τ.2 73 y := fun y => by rw [wL_2, if_neg (fun q => ho3 q.1.symm)]
          rw [q1, q2, q3, hne, hne, hne]
          have e : two6 A (fun i => if i < k + 1 then inv G A i else 0) v = two6 A (fun i => if i < k then inv G A i else 0) v := by
            unfold two6
            by_cases h2 : v < 6
            · rw [if_pos h2, if_pos h2]
            · rw [if_neg h2, if_neg h2]
              by_cases h3 : v - 6 < k
              · exact (if_pos (show v - 6 < k + 1 by omega)).trans (if_pos h3).symm
              · exact (if_neg (show ¬ v - 6 < k + 1 by omega)).trans (if_neg h3).symm
          rw [e]
          exact hT v hv2
end CP
end
