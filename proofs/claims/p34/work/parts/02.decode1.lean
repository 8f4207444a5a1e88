def dqNth : List Nat → Nat → Option Nat
  | [], _ => none
  | x :: _, 0 => some x
  | _ :: l, i + 1 => dqNth l i
def DqBy (c : ByteArray) (p b : Nat) : Prop := (Reader.u1 : Decoder Nat) c p = .ok (b, p + 1)
theorem dqNth_lt : ∀ (l : List UInt8) (p b : Nat), dqNth (l.map UInt8.toNat) p = some b → ∃ h : p < l.length, (l[p]).toNat = b
  | [], p, b, e => by simp [dqNth] at e
  | x :: l, 0, b, e => by
    have e' : x.toNat = b := by simpa [dqNth] using e
    exact ⟨by simp, by simpa using e'⟩
  | x :: l, p + 1, b, e => by
    obtain ⟨h, e'⟩ := dqNth_lt l p b (by simpa [dqNth] using e)
    exact ⟨by simp; omega, by simpa using e'⟩
theorem dqBy_of {c : ByteArray} {T : List Nat} (hT : c.data.toList.map UInt8.toNat = T) {p b : Nat} (h : dqNth T p = some b) : DqBy c p b := by
  subst hT
  obtain ⟨hl, e⟩ := dqNth_lt _ _ _ h
  have hs : p < c.size := by simpa using hl
  show (Reader.u1 : Decoder Nat) c p = .ok (b, p + 1)
  have e2 : (c[p]).toNat = b := e
  unfold Reader.u1
  show (if h : p < c.size then _ else _ : Decoder Nat) c p = _
  rw [dif_pos hs]
  show Except.ok ((c[p]).toNat, p + 1) = _
  rw [e2]
def dqM : { M : Nat → Nat → Decoder Instr // ∀ pc, Decoder.instr pc = (Reader.u1 >>= M pc) } := ⟨_, fun pc => by unfold Decoder.instr; exact rfl⟩
theorem dq_dec {c : ByteArray} {pc b q l : Nat} {I : Instr} (h : DqBy c pc b) (hI : dqM.1 pc b c (pc + 1) = .ok (I, q)) (hl : q = pc + l) : decode c pc = .ok (I, l) := by
  have e : (Decoder.instr pc) c pc = .ok (I, q) := by
    rw [dqM.2 pc]
    show Except.bind ((Reader.u1 : Decoder Nat) c pc) (fun r => dqM.1 pc r.1 c r.2) = _
    rw [show (Reader.u1 : Decoder Nat) c pc = _ from h]
    exact hI
  show Except.bind ((Decoder.instr pc) c pc) (fun r => Except.ok (r.1, r.2 - pc)) = _
  rw [e]
  show Except.ok (I, q - pc) = _
  rw [hl, Nat.add_sub_cancel_left]
theorem dq_f1 {c : ByteArray} {p a : Nat} (f : Nat → Instr) (h : DqBy c p a) : ((do pure (f (← Reader.u1)) : Decoder Instr)) c p = .ok (f a, p + 1) := by
  show Except.bind ((Reader.u1 : Decoder Nat) c p) (fun r => Except.ok (f r.1, r.2)) = _
  rw [show (Reader.u1 : Decoder Nat) c p = _ from h]; rfl
theorem dq_g1 {c : ByteArray} {p a : Nat} (f : Int → Instr) (h : DqBy c p a) : ((do pure (f (← Reader.s1)) : Decoder Instr)) c p = .ok (f (Reader.signed 8 a), p + 1) := by
  show Except.bind (Except.bind ((Reader.u1 : Decoder Nat) c p) (fun r => Except.ok (Reader.signed 8 r.1, r.2))) (fun r => Except.ok (f r.1, r.2)) = _
  rw [show (Reader.u1 : Decoder Nat) c p = _ from h]; rfl
theorem dq_u2 {c : ByteArray} {p a b : Nat} (h : DqBy c p a) (h' : DqBy c (p + 1) b) : (Reader.u2 : Decoder Nat) c p = .ok (a * 256 + b, p + 1 + 1) := by
  show Except.bind ((Reader.u1 : Decoder Nat) c p) (fun r => Except.bind ((Reader.u1 : Decoder Nat) c r.2) (fun s => Except.ok (r.1 * 256 + s.1, s.2))) = _
  rw [show (Reader.u1 : Decoder Nat) c p = _ from h]
  show Except.bind ((Reader.u1 : Decoder Nat) c (p + 1)) (fun s => Except.ok (a * 256 + s.1, s.2)) = _
  rw [show (Reader.u1 : Decoder Nat) c (p + 1) = _ from h']; rfl
theorem dq_f2 {c : ByteArray} {p a b : Nat} (f : Nat → Instr) (h : DqBy c p a) (h' : DqBy c (p + 1) b) : ((do pure (f (← Reader.u2)) : Decoder Instr)) c p = .ok (f (a * 256 + b), p + 1 + 1) := by
  show Except.bind ((Reader.u2 : Decoder Nat) c p) (fun r => Except.ok (f r.1, r.2)) = _
  rw [dq_u2 h h']; rfl
theorem dq_g2 {c : ByteArray} {p a b : Nat} (f : Int → Instr) (h : DqBy c p a) (h' : DqBy c (p + 1) b) : ((do pure (f (← Reader.s2)) : Decoder Instr)) c p = .ok (f (Reader.signed 16 (a * 256 + b)), p + 1 + 1) := by
  show Except.bind (Except.bind ((Reader.u2 : Decoder Nat) c p) (fun r => Except.ok (Reader.signed 16 r.1, r.2))) (fun r => Except.ok (f r.1, r.2)) = _
  rw [dq_u2 h h']; rfl
theorem dq_i2 {c : ByteArray} {p a b : Nat} (f : Nat → Int → Instr) (h : DqBy c p a) (h' : DqBy c (p + 1) b) : ((do pure (f (← Reader.u1) (← Reader.s1)) : Decoder Instr)) c p = .ok (f a (Reader.signed 8 b), p + 1 + 1) := by
  show Except.bind ((Reader.u1 : Decoder Nat) c p) (fun r => Except.bind (Except.bind ((Reader.u1 : Decoder Nat) c r.2) (fun s => Except.ok (Reader.signed 8 s.1, s.2))) (fun s => Except.ok (f r.1 s.1, s.2))) = _
  rw [show (Reader.u1 : Decoder Nat) c p = _ from h]
  show Except.bind (Except.bind ((Reader.u1 : Decoder Nat) c (p + 1)) (fun s => Except.ok (Reader.signed 8 s.1, s.2))) (fun s => Except.ok (f a s.1, s.2)) = _
  rw [show (Reader.u1 : Decoder Nat) c (p + 1) = _ from h']; rfl
theorem dq_step {T0 T A T' : List Nat} {p p' : Nat} (h : ∀ i, dqNth T0 (p + i) = dqNth T i) (hT : T = A ++ T') (hp : p' = p + A.length) : ∀ i, dqNth T0 (p' + i) = dqNth T' i := by
  intro i
  have hn : ∀ (A : List Nat) (i : Nat), dqNth (A ++ T') (A.length + i) = dqNth T' i := by
    intro A i
    induction A with
    | nil => simp
    | cons x A ih => rw [List.cons_append, List.length_cons, show A.length + 1 + i = (A.length + i) + 1 by omega]; exact ih
  rw [hp, Nat.add_assoc, h, hT, hn]
theorem dq_in {A T' : List Nat} : ∀ {i b : Nat}, dqNth A i = some b → dqNth (A ++ T') i = some b := by
  induction A with
  | nil => intro i b h; simp [dqNth] at h
  | cons x A ih =>
    intro i b h
    cases i with
    | zero => exact h
    | succ i => exact ih h

theorem dq_o2 {c : ByteArray} {pc : Nat} (h : DqBy c pc 2) : decode c pc = .ok (.iconst (-1), 1) := dq_dec h rfl rfl
theorem dq_o3 {c : ByteArray} {pc : Nat} (h : DqBy c pc 3) : decode c pc = .ok (.iconst 0, 1) := dq_dec h rfl rfl
theorem dq_o4 {c : ByteArray} {pc : Nat} (h : DqBy c pc 4) : decode c pc = .ok (.iconst 1, 1) := dq_dec h rfl rfl
theorem dq_o5 {c : ByteArray} {pc : Nat} (h : DqBy c pc 5) : decode c pc = .ok (.iconst 2, 1) := dq_dec h rfl rfl
theorem dq_o6 {c : ByteArray} {pc : Nat} (h : DqBy c pc 6) : decode c pc = .ok (.iconst 3, 1) := dq_dec h rfl rfl
theorem dq_o7 {c : ByteArray} {pc : Nat} (h : DqBy c pc 7) : decode c pc = .ok (.iconst 4, 1) := dq_dec h rfl rfl
theorem dq_o8 {c : ByteArray} {pc : Nat} (h : DqBy c pc 8) : decode c pc = .ok (.iconst 5, 1) := dq_dec h rfl rfl
theorem dq_o9 {c : ByteArray} {pc : Nat} (h : DqBy c pc 9) : decode c pc = .ok (.lconst 0, 1) := dq_dec h rfl rfl
theorem dq_o10 {c : ByteArray} {pc : Nat} (h : DqBy c pc 10) : decode c pc = .ok (.lconst 1, 1) := dq_dec h rfl rfl
theorem dq_o16 {c : ByteArray} {pc : Nat} {a : Nat} (h : DqBy c pc 16) (h1 : DqBy c (pc + 1) a) : decode c pc = .ok (.bipush (Reader.signed 8 a), 2) := dq_dec h (dq_g1 (.bipush) h1) rfl
theorem dq_o17 {c : ByteArray} {pc : Nat} {a b : Nat} (h : DqBy c pc 17) (h1 : DqBy c (pc + 1) a) (h2 : DqBy c (pc + 1 + 1) b) : decode c pc = .ok (.sipush (Reader.signed 16 (a * 256 + b)), 3) := dq_dec h (dq_g2 (.sipush) h1 h2) rfl
theorem dq_o18 {c : ByteArray} {pc : Nat} {a : Nat} (h : DqBy c pc 18) (h1 : DqBy c (pc + 1) a) : decode c pc = .ok (.ldc a, 2) := dq_dec h (dq_f1 (.ldc) h1) rfl
theorem dq_o20 {c : ByteArray} {pc : Nat} {a b : Nat} (h : DqBy c pc 20) (h1 : DqBy c (pc + 1) a) (h2 : DqBy c (pc + 1 + 1) b) : decode c pc = .ok (.ldc2_w (a * 256 + b), 3) := dq_dec h (dq_f2 (.ldc2_w) h1 h2) rfl
theorem dq_o21 {c : ByteArray} {pc : Nat} {a : Nat} (h : DqBy c pc 21) (h1 : DqBy c (pc + 1) a) : decode c pc = .ok (.iload a, 2) := dq_dec h (dq_f1 (.iload) h1) rfl
theorem dq_o22 {c : ByteArray} {pc : Nat} {a : Nat} (h : DqBy c pc 22) (h1 : DqBy c (pc + 1) a) : decode c pc = .ok (.lload a, 2) := dq_dec h (dq_f1 (.lload) h1) rfl
theorem dq_o25 {c : ByteArray} {pc : Nat} {a : Nat} (h : DqBy c pc 25) (h1 : DqBy c (pc + 1) a) : decode c pc = .ok (.aload a, 2) := dq_dec h (dq_f1 (.aload) h1) rfl
theorem dq_o26 {c : ByteArray} {pc : Nat} (h : DqBy c pc 26) : decode c pc = .ok (.iload_n 0, 1) := dq_dec h rfl rfl
theorem dq_o27 {c : ByteArray} {pc : Nat} (h : DqBy c pc 27) : decode c pc = .ok (.iload_n 1, 1) := dq_dec h rfl rfl
theorem dq_o28 {c : ByteArray} {pc : Nat} (h : DqBy c pc 28) : decode c pc = .ok (.iload_n 2, 1) := dq_dec h rfl rfl
theorem dq_o29 {c : ByteArray} {pc : Nat} (h : DqBy c pc 29) : decode c pc = .ok (.iload_n 3, 1) := dq_dec h rfl rfl
theorem dq_o30 {c : ByteArray} {pc : Nat} (h : DqBy c pc 30) : decode c pc = .ok (.lload_n 0, 1) := dq_dec h rfl rfl
theorem dq_o31 {c : ByteArray} {pc : Nat} (h : DqBy c pc 31) : decode c pc = .ok (.lload_n 1, 1) := dq_dec h rfl rfl
theorem dq_o32 {c : ByteArray} {pc : Nat} (h : DqBy c pc 32) : decode c pc = .ok (.lload_n 2, 1) := dq_dec h rfl rfl
theorem dq_o33 {c : ByteArray} {pc : Nat} (h : DqBy c pc 33) : decode c pc = .ok (.lload_n 3, 1) := dq_dec h rfl rfl
theorem dq_o42 {c : ByteArray} {pc : Nat} (h : DqBy c pc 42) : decode c pc = .ok (.aload_n 0, 1) := dq_dec h rfl rfl
theorem dq_o43 {c : ByteArray} {pc : Nat} (h : DqBy c pc 43) : decode c pc = .ok (.aload_n 1, 1) := dq_dec h rfl rfl
theorem dq_o44 {c : ByteArray} {pc : Nat} (h : DqBy c pc 44) : decode c pc = .ok (.aload_n 2, 1) := dq_dec h rfl rfl
theorem dq_o45 {c : ByteArray} {pc : Nat} (h : DqBy c pc 45) : decode c pc = .ok (.aload_n 3, 1) := dq_dec h rfl rfl
theorem dq_o46 {c : ByteArray} {pc : Nat} (h : DqBy c pc 46) : decode c pc = .ok (.iaload, 1) := dq_dec h rfl rfl
theorem dq_o47 {c : ByteArray} {pc : Nat} (h : DqBy c pc 47) : decode c pc = .ok (.laload, 1) := dq_dec h rfl rfl
theorem dq_o50 {c : ByteArray} {pc : Nat} (h : DqBy c pc 50) : decode c pc = .ok (.aaload, 1) := dq_dec h rfl rfl
theorem dq_o54 {c : ByteArray} {pc : Nat} {a : Nat} (h : DqBy c pc 54) (h1 : DqBy c (pc + 1) a) : decode c pc = .ok (.istore a, 2) := dq_dec h (dq_f1 (.istore) h1) rfl
theorem dq_o55 {c : ByteArray} {pc : Nat} {a : Nat} (h : DqBy c pc 55) (h1 : DqBy c (pc + 1) a) : decode c pc = .ok (.lstore a, 2) := dq_dec h (dq_f1 (.lstore) h1) rfl
theorem dq_o58 {c : ByteArray} {pc : Nat} {a : Nat} (h : DqBy c pc 58) (h1 : DqBy c (pc + 1) a) : decode c pc = .ok (.astore a, 2) := dq_dec h (dq_f1 (.astore) h1) rfl
theorem dq_o60 {c : ByteArray} {pc : Nat} (h : DqBy c pc 60) : decode c pc = .ok (.istore_n 1, 1) := dq_dec h rfl rfl
theorem dq_o61 {c : ByteArray} {pc : Nat} (h : DqBy c pc 61) : decode c pc = .ok (.istore_n 2, 1) := dq_dec h rfl rfl
theorem dq_o62 {c : ByteArray} {pc : Nat} (h : DqBy c pc 62) : decode c pc = .ok (.istore_n 3, 1) := dq_dec h rfl rfl
theorem dq_o64 {c : ByteArray} {pc : Nat} (h : DqBy c pc 64) : decode c pc = .ok (.lstore_n 1, 1) := dq_dec h rfl rfl
theorem dq_o65 {c : ByteArray} {pc : Nat} (h : DqBy c pc 65) : decode c pc = .ok (.lstore_n 2, 1) := dq_dec h rfl rfl
theorem dq_o66 {c : ByteArray} {pc : Nat} (h : DqBy c pc 66) : decode c pc = .ok (.lstore_n 3, 1) := dq_dec h rfl rfl
theorem dq_o76 {c : ByteArray} {pc : Nat} (h : DqBy c pc 76) : decode c pc = .ok (.astore_n 1, 1) := dq_dec h rfl rfl
theorem dq_o77 {c : ByteArray} {pc : Nat} (h : DqBy c pc 77) : decode c pc = .ok (.astore_n 2, 1) := dq_dec h rfl rfl
theorem dq_o78 {c : ByteArray} {pc : Nat} (h : DqBy c pc 78) : decode c pc = .ok (.astore_n 3, 1) := dq_dec h rfl rfl
theorem dq_o79 {c : ByteArray} {pc : Nat} (h : DqBy c pc 79) : decode c pc = .ok (.iastore, 1) := dq_dec h rfl rfl
theorem dq_o80 {c : ByteArray} {pc : Nat} (h : DqBy c pc 80) : decode c pc = .ok (.lastore, 1) := dq_dec h rfl rfl
theorem dq_o83 {c : ByteArray} {pc : Nat} (h : DqBy c pc 83) : decode c pc = .ok (.aastore, 1) := dq_dec h rfl rfl
theorem dq_o87 {c : ByteArray} {pc : Nat} (h : DqBy c pc 87) : decode c pc = .ok (.pop, 1) := dq_dec h rfl rfl
theorem dq_o88 {c : ByteArray} {pc : Nat} (h : DqBy c pc 88) : decode c pc = .ok (.pop2, 1) := dq_dec h rfl rfl
theorem dq_o89 {c : ByteArray} {pc : Nat} (h : DqBy c pc 89) : decode c pc = .ok (.dup, 1) := dq_dec h rfl rfl
theorem dq_o92 {c : ByteArray} {pc : Nat} (h : DqBy c pc 92) : decode c pc = .ok (.dup2, 1) := dq_dec h rfl rfl
theorem dq_o96 {c : ByteArray} {pc : Nat} (h : DqBy c pc 96) : decode c pc = .ok (.iadd, 1) := dq_dec h rfl rfl
theorem dq_o97 {c : ByteArray} {pc : Nat} (h : DqBy c pc 97) : decode c pc = .ok (.ladd, 1) := dq_dec h rfl rfl
theorem dq_o100 {c : ByteArray} {pc : Nat} (h : DqBy c pc 100) : decode c pc = .ok (.isub, 1) := dq_dec h rfl rfl
theorem dq_o101 {c : ByteArray} {pc : Nat} (h : DqBy c pc 101) : decode c pc = .ok (.lsub, 1) := dq_dec h rfl rfl
theorem dq_o104 {c : ByteArray} {pc : Nat} (h : DqBy c pc 104) : decode c pc = .ok (.imul, 1) := dq_dec h rfl rfl
theorem dq_o105 {c : ByteArray} {pc : Nat} (h : DqBy c pc 105) : decode c pc = .ok (.lmul, 1) := dq_dec h rfl rfl
theorem dq_o108 {c : ByteArray} {pc : Nat} (h : DqBy c pc 108) : decode c pc = .ok (.idiv, 1) := dq_dec h rfl rfl
theorem dq_o109 {c : ByteArray} {pc : Nat} (h : DqBy c pc 109) : decode c pc = .ok (.ldiv, 1) := dq_dec h rfl rfl
theorem dq_o112 {c : ByteArray} {pc : Nat} (h : DqBy c pc 112) : decode c pc = .ok (.irem, 1) := dq_dec h rfl rfl
theorem dq_o113 {c : ByteArray} {pc : Nat} (h : DqBy c pc 113) : decode c pc = .ok (.lrem, 1) := dq_dec h rfl rfl
theorem dq_o116 {c : ByteArray} {pc : Nat} (h : DqBy c pc 116) : decode c pc = .ok (.ineg, 1) := dq_dec h rfl rfl
theorem dq_o117 {c : ByteArray} {pc : Nat} (h : DqBy c pc 117) : decode c pc = .ok (.lneg, 1) := dq_dec h rfl rfl
theorem dq_o120 {c : ByteArray} {pc : Nat} (h : DqBy c pc 120) : decode c pc = .ok (.ishl, 1) := dq_dec h rfl rfl
theorem dq_o122 {c : ByteArray} {pc : Nat} (h : DqBy c pc 122) : decode c pc = .ok (.ishr, 1) := dq_dec h rfl rfl
theorem dq_o126 {c : ByteArray} {pc : Nat} (h : DqBy c pc 126) : decode c pc = .ok (.iand, 1) := dq_dec h rfl rfl
theorem dq_o128 {c : ByteArray} {pc : Nat} (h : DqBy c pc 128) : decode c pc = .ok (.ior, 1) := dq_dec h rfl rfl
theorem dq_o131 {c : ByteArray} {pc : Nat} (h : DqBy c pc 131) : decode c pc = .ok (.lxor, 1) := dq_dec h rfl rfl
theorem dq_o132 {c : ByteArray} {pc : Nat} {a b : Nat} (h : DqBy c pc 132) (h1 : DqBy c (pc + 1) a) (h2 : DqBy c (pc + 1 + 1) b) : decode c pc = .ok (.iinc a (Reader.signed 8 b), 3) := dq_dec h (dq_i2 .iinc h1 h2) rfl
theorem dq_o133 {c : ByteArray} {pc : Nat} (h : DqBy c pc 133) : decode c pc = .ok (.i2l, 1) := dq_dec h rfl rfl
theorem dq_o136 {c : ByteArray} {pc : Nat} (h : DqBy c pc 136) : decode c pc = .ok (.l2i, 1) := dq_dec h rfl rfl
theorem dq_o148 {c : ByteArray} {pc : Nat} (h : DqBy c pc 148) : decode c pc = .ok (.lcmp, 1) := dq_dec h rfl rfl
theorem dq_o153 {c : ByteArray} {pc : Nat} {a b : Nat} (h : DqBy c pc 153) (h1 : DqBy c (pc + 1) a) (h2 : DqBy c (pc + 1 + 1) b) : decode c pc = .ok (.ifCond .eq (Reader.signed 16 (a * 256 + b)), 3) := dq_dec h (dq_g2 (.ifCond .eq) h1 h2) rfl
theorem dq_o154 {c : ByteArray} {pc : Nat} {a b : Nat} (h : DqBy c pc 154) (h1 : DqBy c (pc + 1) a) (h2 : DqBy c (pc + 1 + 1) b) : decode c pc = .ok (.ifCond .ne (Reader.signed 16 (a * 256 + b)), 3) := dq_dec h (dq_g2 (.ifCond .ne) h1 h2) rfl
theorem dq_o155 {c : ByteArray} {pc : Nat} {a b : Nat} (h : DqBy c pc 155) (h1 : DqBy c (pc + 1) a) (h2 : DqBy c (pc + 1 + 1) b) : decode c pc = .ok (.ifCond .lt (Reader.signed 16 (a * 256 + b)), 3) := dq_dec h (dq_g2 (.ifCond .lt) h1 h2) rfl
theorem dq_o156 {c : ByteArray} {pc : Nat} {a b : Nat} (h : DqBy c pc 156) (h1 : DqBy c (pc + 1) a) (h2 : DqBy c (pc + 1 + 1) b) : decode c pc = .ok (.ifCond .ge (Reader.signed 16 (a * 256 + b)), 3) := dq_dec h (dq_g2 (.ifCond .ge) h1 h2) rfl
theorem dq_o157 {c : ByteArray} {pc : Nat} {a b : Nat} (h : DqBy c pc 157) (h1 : DqBy c (pc + 1) a) (h2 : DqBy c (pc + 1 + 1) b) : decode c pc = .ok (.ifCond .gt (Reader.signed 16 (a * 256 + b)), 3) := dq_dec h (dq_g2 (.ifCond .gt) h1 h2) rfl
theorem dq_o158 {c : ByteArray} {pc : Nat} {a b : Nat} (h : DqBy c pc 158) (h1 : DqBy c (pc + 1) a) (h2 : DqBy c (pc + 1 + 1) b) : decode c pc = .ok (.ifCond .le (Reader.signed 16 (a * 256 + b)), 3) := dq_dec h (dq_g2 (.ifCond .le) h1 h2) rfl
theorem dq_o159 {c : ByteArray} {pc : Nat} {a b : Nat} (h : DqBy c pc 159) (h1 : DqBy c (pc + 1) a) (h2 : DqBy c (pc + 1 + 1) b) : decode c pc = .ok (.if_icmp .eq (Reader.signed 16 (a * 256 + b)), 3) := dq_dec h (dq_g2 (.if_icmp .eq) h1 h2) rfl
theorem dq_o160 {c : ByteArray} {pc : Nat} {a b : Nat} (h : DqBy c pc 160) (h1 : DqBy c (pc + 1) a) (h2 : DqBy c (pc + 1 + 1) b) : decode c pc = .ok (.if_icmp .ne (Reader.signed 16 (a * 256 + b)), 3) := dq_dec h (dq_g2 (.if_icmp .ne) h1 h2) rfl
theorem dq_o161 {c : ByteArray} {pc : Nat} {a b : Nat} (h : DqBy c pc 161) (h1 : DqBy c (pc + 1) a) (h2 : DqBy c (pc + 1 + 1) b) : decode c pc = .ok (.if_icmp .lt (Reader.signed 16 (a * 256 + b)), 3) := dq_dec h (dq_g2 (.if_icmp .lt) h1 h2) rfl
theorem dq_o162 {c : ByteArray} {pc : Nat} {a b : Nat} (h : DqBy c pc 162) (h1 : DqBy c (pc + 1) a) (h2 : DqBy c (pc + 1 + 1) b) : decode c pc = .ok (.if_icmp .ge (Reader.signed 16 (a * 256 + b)), 3) := dq_dec h (dq_g2 (.if_icmp .ge) h1 h2) rfl
theorem dq_o163 {c : ByteArray} {pc : Nat} {a b : Nat} (h : DqBy c pc 163) (h1 : DqBy c (pc + 1) a) (h2 : DqBy c (pc + 1 + 1) b) : decode c pc = .ok (.if_icmp .gt (Reader.signed 16 (a * 256 + b)), 3) := dq_dec h (dq_g2 (.if_icmp .gt) h1 h2) rfl
theorem dq_o164 {c : ByteArray} {pc : Nat} {a b : Nat} (h : DqBy c pc 164) (h1 : DqBy c (pc + 1) a) (h2 : DqBy c (pc + 1 + 1) b) : decode c pc = .ok (.if_icmp .le (Reader.signed 16 (a * 256 + b)), 3) := dq_dec h (dq_g2 (.if_icmp .le) h1 h2) rfl
theorem dq_o167 {c : ByteArray} {pc : Nat} {a b : Nat} (h : DqBy c pc 167) (h1 : DqBy c (pc + 1) a) (h2 : DqBy c (pc + 1 + 1) b) : decode c pc = .ok (.goto (Reader.signed 16 (a * 256 + b)), 3) := dq_dec h (dq_g2 (.goto) h1 h2) rfl
theorem dq_o172 {c : ByteArray} {pc : Nat} (h : DqBy c pc 172) : decode c pc = .ok (.ireturn, 1) := dq_dec h rfl rfl
theorem dq_o173 {c : ByteArray} {pc : Nat} (h : DqBy c pc 173) : decode c pc = .ok (.lreturn, 1) := dq_dec h rfl rfl
theorem dq_o177 {c : ByteArray} {pc : Nat} (h : DqBy c pc 177) : decode c pc = .ok (.return_, 1) := dq_dec h rfl rfl
theorem dq_o178 {c : ByteArray} {pc : Nat} {a b : Nat} (h : DqBy c pc 178) (h1 : DqBy c (pc + 1) a) (h2 : DqBy c (pc + 1 + 1) b) : decode c pc = .ok (.getstatic (a * 256 + b), 3) := dq_dec h (dq_f2 (.getstatic) h1 h2) rfl
theorem dq_o180 {c : ByteArray} {pc : Nat} {a b : Nat} (h : DqBy c pc 180) (h1 : DqBy c (pc + 1) a) (h2 : DqBy c (pc + 1 + 1) b) : decode c pc = .ok (.getfield (a * 256 + b), 3) := dq_dec h (dq_f2 (.getfield) h1 h2) rfl
theorem dq_o181 {c : ByteArray} {pc : Nat} {a b : Nat} (h : DqBy c pc 181) (h1 : DqBy c (pc + 1) a) (h2 : DqBy c (pc + 1 + 1) b) : decode c pc = .ok (.putfield (a * 256 + b), 3) := dq_dec h (dq_f2 (.putfield) h1 h2) rfl
theorem dq_o182 {c : ByteArray} {pc : Nat} {a b : Nat} (h : DqBy c pc 182) (h1 : DqBy c (pc + 1) a) (h2 : DqBy c (pc + 1 + 1) b) : decode c pc = .ok (.invokevirtual (a * 256 + b), 3) := dq_dec h (dq_f2 (.invokevirtual) h1 h2) rfl
theorem dq_o183 {c : ByteArray} {pc : Nat} {a b : Nat} (h : DqBy c pc 183) (h1 : DqBy c (pc + 1) a) (h2 : DqBy c (pc + 1 + 1) b) : decode c pc = .ok (.invokespecial (a * 256 + b), 3) := dq_dec h (dq_f2 (.invokespecial) h1 h2) rfl
theorem dq_o184 {c : ByteArray} {pc : Nat} {a b : Nat} (h : DqBy c pc 184) (h1 : DqBy c (pc + 1) a) (h2 : DqBy c (pc + 1 + 1) b) : decode c pc = .ok (.invokestatic (a * 256 + b), 3) := dq_dec h (dq_f2 (.invokestatic) h1 h2) rfl
theorem dq_o187 {c : ByteArray} {pc : Nat} {a b : Nat} (h : DqBy c pc 187) (h1 : DqBy c (pc + 1) a) (h2 : DqBy c (pc + 1 + 1) b) : decode c pc = .ok (.new (a * 256 + b), 3) := dq_dec h (dq_f2 (.new) h1 h2) rfl
theorem dq_o189 {c : ByteArray} {pc : Nat} {a b : Nat} (h : DqBy c pc 189) (h1 : DqBy c (pc + 1) a) (h2 : DqBy c (pc + 1 + 1) b) : decode c pc = .ok (.anewarray (a * 256 + b), 3) := dq_dec h (dq_f2 (.anewarray) h1 h2) rfl
theorem dq_o190 {c : ByteArray} {pc : Nat} (h : DqBy c pc 190) : decode c pc = .ok (.arraylength, 1) := dq_dec h rfl rfl
abbrev qaX0_init_0 : List Nat := [42, 183, 0, 3, 42, 16, 64, 188, 11, 181, 0, 9, 42, 16, 64, 188]
abbrev qaX0_init_1 : List Nat := [11, 181, 0, 15, 42, 16, 6, 188, 11, 181, 0, 18, 42, 16, 6, 188]
abbrev qaX0_init_2 : List Nat := [11, 181, 0, 21, 42, 16, 6, 188, 11, 181, 0, 24, 42, 16, 6, 188]
abbrev qaX0_init_3 : List Nat := [11, 181, 0, 27, 42, 16, 6, 188, 11, 181, 0, 30, 42, 43, 181, 0]
abbrev qaX0_init_4 : List Nat := [33, 177]
def qtX0_init_5 : List Nat := []
def qtX0_init_4 : List Nat := qaX0_init_4 ++ qtX0_init_5
def qtX0_init_3 : List Nat := qaX0_init_3 ++ qtX0_init_4
def qtX0_init_2 : List Nat := qaX0_init_2 ++ qtX0_init_3
def qtX0_init_1 : List Nat := qaX0_init_1 ++ qtX0_init_2
def qtX0_init_0 : List Nat := qaX0_init_0 ++ qtX0_init_1
theorem qeX0_init : cX0_init.data.toList.map UInt8.toNat = qtX0_init_0 := by decide +kernel
theorem qsX0_init_0 : ∀ i, dqNth qtX0_init_0 (0 + i) = dqNth qtX0_init_0 i := fun i => by rw [Nat.zero_add]
theorem qsX0_init_1 : ∀ i, dqNth qtX0_init_0 (16 + i) = dqNth qtX0_init_1 i := dq_step qsX0_init_0 rfl rfl
theorem qsX0_init_2 : ∀ i, dqNth qtX0_init_0 (32 + i) = dqNth qtX0_init_2 i := dq_step qsX0_init_1 rfl rfl
theorem qsX0_init_3 : ∀ i, dqNth qtX0_init_0 (48 + i) = dqNth qtX0_init_3 i := dq_step qsX0_init_2 rfl rfl
theorem qsX0_init_4 : ∀ i, dqNth qtX0_init_0 (64 + i) = dqNth qtX0_init_4 i := dq_step qsX0_init_3 rfl rfl
theorem qX0_init_0 (i b : Nat) (h : dqNth qaX0_init_0 i = some b) : DqBy cX0_init (0 + i) b := dqBy_of qeX0_init ((qsX0_init_0 i).trans (dq_in h))
theorem qX0_init_1 (i b : Nat) (h : dqNth qaX0_init_1 i = some b) : DqBy cX0_init (16 + i) b := dqBy_of qeX0_init ((qsX0_init_1 i).trans (dq_in h))
theorem qX0_init_2 (i b : Nat) (h : dqNth qaX0_init_2 i = some b) : DqBy cX0_init (32 + i) b := dqBy_of qeX0_init ((qsX0_init_2 i).trans (dq_in h))
theorem qX0_init_3 (i b : Nat) (h : dqNth qaX0_init_3 i = some b) : DqBy cX0_init (48 + i) b := dqBy_of qeX0_init ((qsX0_init_3 i).trans (dq_in h))
theorem qX0_init_4 (i b : Nat) (h : dqNth qaX0_init_4 i = some b) : DqBy cX0_init (64 + i) b := dqBy_of qeX0_init ((qsX0_init_4 i).trans (dq_in h))
theorem dX0_init_0 : decode cX0_init 0 = .ok (.aload_n 0, 1) := @dq_o42 cX0_init 0 (qX0_init_0 0 42 rfl)
theorem dX0_init_1 : decode cX0_init 1 = .ok (.invokespecial 3, 3) := @dq_o183 cX0_init 1 0 3 (qX0_init_0 1 183 rfl) (qX0_init_0 2 0 rfl) (qX0_init_0 3 3 rfl)
theorem dX0_init_4 : decode cX0_init 4 = .ok (.aload_n 0, 1) := @dq_o42 cX0_init 4 (qX0_init_0 4 42 rfl)
theorem dX0_init_5 : decode cX0_init 5 = .ok (.bipush 64, 2) := @dq_o16 cX0_init 5 64 (qX0_init_0 5 16 rfl) (qX0_init_0 6 64 rfl)
theorem dX0_init_7 : decode cX0_init 7 = .ok (.newarray .long, 2) := by decide +kernel
theorem dX0_init_9 : decode cX0_init 9 = .ok (.putfield 9, 3) := @dq_o181 cX0_init 9 0 9 (qX0_init_0 9 181 rfl) (qX0_init_0 10 0 rfl) (qX0_init_0 11 9 rfl)
theorem dX0_init_12 : decode cX0_init 12 = .ok (.aload_n 0, 1) := @dq_o42 cX0_init 12 (qX0_init_0 12 42 rfl)
theorem dX0_init_13 : decode cX0_init 13 = .ok (.bipush 64, 2) := @dq_o16 cX0_init 13 64 (qX0_init_0 13 16 rfl) (qX0_init_0 14 64 rfl)
theorem dX0_init_15 : decode cX0_init 15 = .ok (.newarray .long, 2) := by decide +kernel
theorem dX0_init_17 : decode cX0_init 17 = .ok (.putfield 15, 3) := @dq_o181 cX0_init 17 0 15 (qX0_init_1 1 181 rfl) (qX0_init_1 2 0 rfl) (qX0_init_1 3 15 rfl)
theorem dX0_init_20 : decode cX0_init 20 = .ok (.aload_n 0, 1) := @dq_o42 cX0_init 20 (qX0_init_1 4 42 rfl)
theorem dX0_init_21 : decode cX0_init 21 = .ok (.bipush 6, 2) := @dq_o16 cX0_init 21 6 (qX0_init_1 5 16 rfl) (qX0_init_1 6 6 rfl)
theorem dX0_init_23 : decode cX0_init 23 = .ok (.newarray .long, 2) := by decide +kernel
theorem dX0_init_25 : decode cX0_init 25 = .ok (.putfield 18, 3) := @dq_o181 cX0_init 25 0 18 (qX0_init_1 9 181 rfl) (qX0_init_1 10 0 rfl) (qX0_init_1 11 18 rfl)
theorem dX0_init_28 : decode cX0_init 28 = .ok (.aload_n 0, 1) := @dq_o42 cX0_init 28 (qX0_init_1 12 42 rfl)
theorem dX0_init_29 : decode cX0_init 29 = .ok (.bipush 6, 2) := @dq_o16 cX0_init 29 6 (qX0_init_1 13 16 rfl) (qX0_init_1 14 6 rfl)
theorem dX0_init_31 : decode cX0_init 31 = .ok (.newarray .long, 2) := by decide +kernel
theorem dX0_init_33 : decode cX0_init 33 = .ok (.putfield 21, 3) := @dq_o181 cX0_init 33 0 21 (qX0_init_2 1 181 rfl) (qX0_init_2 2 0 rfl) (qX0_init_2 3 21 rfl)
theorem dX0_init_36 : decode cX0_init 36 = .ok (.aload_n 0, 1) := @dq_o42 cX0_init 36 (qX0_init_2 4 42 rfl)
theorem dX0_init_37 : decode cX0_init 37 = .ok (.bipush 6, 2) := @dq_o16 cX0_init 37 6 (qX0_init_2 5 16 rfl) (qX0_init_2 6 6 rfl)
theorem dX0_init_39 : decode cX0_init 39 = .ok (.newarray .long, 2) := by decide +kernel
theorem dX0_init_41 : decode cX0_init 41 = .ok (.putfield 24, 3) := @dq_o181 cX0_init 41 0 24 (qX0_init_2 9 181 rfl) (qX0_init_2 10 0 rfl) (qX0_init_2 11 24 rfl)
theorem dX0_init_44 : decode cX0_init 44 = .ok (.aload_n 0, 1) := @dq_o42 cX0_init 44 (qX0_init_2 12 42 rfl)
theorem dX0_init_45 : decode cX0_init 45 = .ok (.bipush 6, 2) := @dq_o16 cX0_init 45 6 (qX0_init_2 13 16 rfl) (qX0_init_2 14 6 rfl)
theorem dX0_init_47 : decode cX0_init 47 = .ok (.newarray .long, 2) := by decide +kernel
theorem dX0_init_49 : decode cX0_init 49 = .ok (.putfield 27, 3) := @dq_o181 cX0_init 49 0 27 (qX0_init_3 1 181 rfl) (qX0_init_3 2 0 rfl) (qX0_init_3 3 27 rfl)
theorem dX0_init_52 : decode cX0_init 52 = .ok (.aload_n 0, 1) := @dq_o42 cX0_init 52 (qX0_init_3 4 42 rfl)
theorem dX0_init_53 : decode cX0_init 53 = .ok (.bipush 6, 2) := @dq_o16 cX0_init 53 6 (qX0_init_3 5 16 rfl) (qX0_init_3 6 6 rfl)
theorem dX0_init_55 : decode cX0_init 55 = .ok (.newarray .long, 2) := by decide +kernel
theorem dX0_init_57 : decode cX0_init 57 = .ok (.putfield 30, 3) := @dq_o181 cX0_init 57 0 30 (qX0_init_3 9 181 rfl) (qX0_init_3 10 0 rfl) (qX0_init_3 11 30 rfl)
theorem dX0_init_60 : decode cX0_init 60 = .ok (.aload_n 0, 1) := @dq_o42 cX0_init 60 (qX0_init_3 12 42 rfl)
theorem dX0_init_61 : decode cX0_init 61 = .ok (.aload_n 1, 1) := @dq_o43 cX0_init 61 (qX0_init_3 13 43 rfl)
theorem dX0_init_62 : decode cX0_init 62 = .ok (.putfield 33, 3) := @dq_o181 cX0_init 62 0 33 (qX0_init_3 14 181 rfl) (qX0_init_3 15 0 rfl) (qX0_init_4 0 33 rfl)
theorem dX0_init_65 : decode cX0_init 65 = .ok (.return_, 1) := @dq_o177 cX0_init 65 (qX0_init_4 1 177 rfl)
abbrev qaX0_copy_0 : List Nat := [42, 3, 43, 3, 16, 6, 184, 0, 37, 177]
def qtX0_copy_1 : List Nat := []
def qtX0_copy_0 : List Nat := qaX0_copy_0 ++ qtX0_copy_1
theorem qeX0_copy : cX0_copy.data.toList.map UInt8.toNat = qtX0_copy_0 := by decide +kernel
theorem qsX0_copy_0 : ∀ i, dqNth qtX0_copy_0 (0 + i) = dqNth qtX0_copy_0 i := fun i => by rw [Nat.zero_add]
theorem qX0_copy_0 (i b : Nat) (h : dqNth qaX0_copy_0 i = some b) : DqBy cX0_copy (0 + i) b := dqBy_of qeX0_copy ((qsX0_copy_0 i).trans (dq_in h))
theorem dX0_copy_0 : decode cX0_copy 0 = .ok (.aload_n 0, 1) := @dq_o42 cX0_copy 0 (qX0_copy_0 0 42 rfl)
theorem dX0_copy_1 : decode cX0_copy 1 = .ok (.iconst 0, 1) := @dq_o3 cX0_copy 1 (qX0_copy_0 1 3 rfl)
theorem dX0_copy_2 : decode cX0_copy 2 = .ok (.aload_n 1, 1) := @dq_o43 cX0_copy 2 (qX0_copy_0 2 43 rfl)
theorem dX0_copy_3 : decode cX0_copy 3 = .ok (.iconst 0, 1) := @dq_o3 cX0_copy 3 (qX0_copy_0 3 3 rfl)
theorem dX0_copy_4 : decode cX0_copy 4 = .ok (.bipush 6, 2) := @dq_o16 cX0_copy 4 6 (qX0_copy_0 4 16 rfl) (qX0_copy_0 5 6 rfl)
theorem dX0_copy_6 : decode cX0_copy 6 = .ok (.invokestatic 37, 3) := @dq_o184 cX0_copy 6 0 37 (qX0_copy_0 6 184 rfl) (qX0_copy_0 7 0 rfl) (qX0_copy_0 8 37 rfl)
theorem dX0_copy_9 : decode cX0_copy 9 = .ok (.return_, 1) := @dq_o177 cX0_copy 9 (qX0_copy_0 9 177 rfl)
abbrev qaX0_areSame_0 : List Nat := [3, 61, 28, 16, 6, 162, 0, 21, 42, 28, 47, 43, 28, 47, 148, 153]
abbrev qaX0_areSame_1 : List Nat := [0, 5, 3, 172, 132, 2, 1, 167, 255, 235, 4, 172]
def qtX0_areSame_2 : List Nat := []
def qtX0_areSame_1 : List Nat := qaX0_areSame_1 ++ qtX0_areSame_2
def qtX0_areSame_0 : List Nat := qaX0_areSame_0 ++ qtX0_areSame_1
theorem qeX0_areSame : cX0_areSame.data.toList.map UInt8.toNat = qtX0_areSame_0 := by decide +kernel
theorem qsX0_areSame_0 : ∀ i, dqNth qtX0_areSame_0 (0 + i) = dqNth qtX0_areSame_0 i := fun i => by rw [Nat.zero_add]
theorem qsX0_areSame_1 : ∀ i, dqNth qtX0_areSame_0 (16 + i) = dqNth qtX0_areSame_1 i := dq_step qsX0_areSame_0 rfl rfl
theorem qX0_areSame_0 (i b : Nat) (h : dqNth qaX0_areSame_0 i = some b) : DqBy cX0_areSame (0 + i) b := dqBy_of qeX0_areSame ((qsX0_areSame_0 i).trans (dq_in h))
theorem qX0_areSame_1 (i b : Nat) (h : dqNth qaX0_areSame_1 i = some b) : DqBy cX0_areSame (16 + i) b := dqBy_of qeX0_areSame ((qsX0_areSame_1 i).trans (dq_in h))
theorem dX0_areSame_0 : decode cX0_areSame 0 = .ok (.iconst 0, 1) := @dq_o3 cX0_areSame 0 (qX0_areSame_0 0 3 rfl)
theorem dX0_areSame_1 : decode cX0_areSame 1 = .ok (.istore_n 2, 1) := @dq_o61 cX0_areSame 1 (qX0_areSame_0 1 61 rfl)
theorem dX0_areSame_2 : decode cX0_areSame 2 = .ok (.iload_n 2, 1) := @dq_o28 cX0_areSame 2 (qX0_areSame_0 2 28 rfl)
theorem dX0_areSame_3 : decode cX0_areSame 3 = .ok (.bipush 6, 2) := @dq_o16 cX0_areSame 3 6 (qX0_areSame_0 3 16 rfl) (qX0_areSame_0 4 6 rfl)
theorem dX0_areSame_5 : decode cX0_areSame 5 = .ok (.if_icmp .ge 21, 3) := @dq_o162 cX0_areSame 5 0 21 (qX0_areSame_0 5 162 rfl) (qX0_areSame_0 6 0 rfl) (qX0_areSame_0 7 21 rfl)
theorem dX0_areSame_8 : decode cX0_areSame 8 = .ok (.aload_n 0, 1) := @dq_o42 cX0_areSame 8 (qX0_areSame_0 8 42 rfl)
theorem dX0_areSame_9 : decode cX0_areSame 9 = .ok (.iload_n 2, 1) := @dq_o28 cX0_areSame 9 (qX0_areSame_0 9 28 rfl)
theorem dX0_areSame_10 : decode cX0_areSame 10 = .ok (.laload, 1) := @dq_o47 cX0_areSame 10 (qX0_areSame_0 10 47 rfl)
theorem dX0_areSame_11 : decode cX0_areSame 11 = .ok (.aload_n 1, 1) := @dq_o43 cX0_areSame 11 (qX0_areSame_0 11 43 rfl)
theorem dX0_areSame_12 : decode cX0_areSame 12 = .ok (.iload_n 2, 1) := @dq_o28 cX0_areSame 12 (qX0_areSame_0 12 28 rfl)
theorem dX0_areSame_13 : decode cX0_areSame 13 = .ok (.laload, 1) := @dq_o47 cX0_areSame 13 (qX0_areSame_0 13 47 rfl)
theorem dX0_areSame_14 : decode cX0_areSame 14 = .ok (.lcmp, 1) := @dq_o148 cX0_areSame 14 (qX0_areSame_0 14 148 rfl)
theorem dX0_areSame_15 : decode cX0_areSame 15 = .ok (.ifCond .eq 5, 3) := @dq_o153 cX0_areSame 15 0 5 (qX0_areSame_0 15 153 rfl) (qX0_areSame_1 0 0 rfl) (qX0_areSame_1 1 5 rfl)
theorem dX0_areSame_18 : decode cX0_areSame 18 = .ok (.iconst 0, 1) := @dq_o3 cX0_areSame 18 (qX0_areSame_1 2 3 rfl)
theorem dX0_areSame_19 : decode cX0_areSame 19 = .ok (.ireturn, 1) := @dq_o172 cX0_areSame 19 (qX0_areSame_1 3 172 rfl)
theorem dX0_areSame_20 : decode cX0_areSame 20 = .ok (.iinc 2 1, 3) := @dq_o132 cX0_areSame 20 2 1 (qX0_areSame_1 4 132 rfl) (qX0_areSame_1 5 2 rfl) (qX0_areSame_1 6 1 rfl)
theorem dX0_areSame_23 : decode cX0_areSame 23 = .ok (.goto (-21), 3) := @dq_o167 cX0_areSame 23 255 235 (qX0_areSame_1 7 167 rfl) (qX0_areSame_1 8 255 rfl) (qX0_areSame_1 9 235 rfl)
theorem dX0_areSame_26 : decode cX0_areSame 26 = .ok (.iconst 1, 1) := @dq_o4 cX0_areSame 26 (qX0_areSame_1 10 4 rfl)
theorem dX0_areSame_27 : decode cX0_areSame 27 = .ok (.ireturn, 1) := @dq_o172 cX0_areSame 27 (qX0_areSame_1 11 172 rfl)
abbrev qaX0_isOne_0 : List Nat := [42, 9, 184, 0, 43, 172]
def qtX0_isOne_1 : List Nat := []
def qtX0_isOne_0 : List Nat := qaX0_isOne_0 ++ qtX0_isOne_1
theorem qeX0_isOne : cX0_isOne.data.toList.map UInt8.toNat = qtX0_isOne_0 := by decide +kernel
theorem qsX0_isOne_0 : ∀ i, dqNth qtX0_isOne_0 (0 + i) = dqNth qtX0_isOne_0 i := fun i => by rw [Nat.zero_add]
theorem qX0_isOne_0 (i b : Nat) (h : dqNth qaX0_isOne_0 i = some b) : DqBy cX0_isOne (0 + i) b := dqBy_of qeX0_isOne ((qsX0_isOne_0 i).trans (dq_in h))
theorem dX0_isOne_0 : decode cX0_isOne 0 = .ok (.aload_n 0, 1) := @dq_o42 cX0_isOne 0 (qX0_isOne_0 0 42 rfl)
theorem dX0_isOne_1 : decode cX0_isOne 1 = .ok (.lconst 0, 1) := @dq_o9 cX0_isOne 1 (qX0_isOne_0 1 9 rfl)
theorem dX0_isOne_2 : decode cX0_isOne 2 = .ok (.invokestatic 43, 3) := @dq_o184 cX0_isOne 2 0 43 (qX0_isOne_0 2 184 rfl) (qX0_isOne_0 3 0 rfl) (qX0_isOne_0 4 43 rfl)
theorem dX0_isOne_5 : decode cX0_isOne 5 = .ok (.ireturn, 1) := @dq_o172 cX0_isOne 5 (qX0_isOne_0 5 172 rfl)
abbrev qaX0_isWithin_0 : List Nat := [3, 62, 29, 16, 6, 162, 0, 28, 42, 29, 47, 31, 117, 148, 155, 0]
abbrev qaX0_isWithin_1 : List Nat := [11, 42, 29, 47, 31, 148, 158, 0, 5, 3, 172, 132, 3, 1, 167, 255]
abbrev qaX0_isWithin_2 : List Nat := [228, 4, 172]
def qtX0_isWithin_3 : List Nat := []
def qtX0_isWithin_2 : List Nat := qaX0_isWithin_2 ++ qtX0_isWithin_3
def qtX0_isWithin_1 : List Nat := qaX0_isWithin_1 ++ qtX0_isWithin_2
def qtX0_isWithin_0 : List Nat := qaX0_isWithin_0 ++ qtX0_isWithin_1
theorem qeX0_isWithin : cX0_isWithin.data.toList.map UInt8.toNat = qtX0_isWithin_0 := by decide +kernel
theorem qsX0_isWithin_0 : ∀ i, dqNth qtX0_isWithin_0 (0 + i) = dqNth qtX0_isWithin_0 i := fun i => by rw [Nat.zero_add]
theorem qsX0_isWithin_1 : ∀ i, dqNth qtX0_isWithin_0 (16 + i) = dqNth qtX0_isWithin_1 i := dq_step qsX0_isWithin_0 rfl rfl
theorem qsX0_isWithin_2 : ∀ i, dqNth qtX0_isWithin_0 (32 + i) = dqNth qtX0_isWithin_2 i := dq_step qsX0_isWithin_1 rfl rfl
theorem qX0_isWithin_0 (i b : Nat) (h : dqNth qaX0_isWithin_0 i = some b) : DqBy cX0_isWithin (0 + i) b := dqBy_of qeX0_isWithin ((qsX0_isWithin_0 i).trans (dq_in h))
theorem qX0_isWithin_1 (i b : Nat) (h : dqNth qaX0_isWithin_1 i = some b) : DqBy cX0_isWithin (16 + i) b := dqBy_of qeX0_isWithin ((qsX0_isWithin_1 i).trans (dq_in h))
theorem qX0_isWithin_2 (i b : Nat) (h : dqNth qaX0_isWithin_2 i = some b) : DqBy cX0_isWithin (32 + i) b := dqBy_of qeX0_isWithin ((qsX0_isWithin_2 i).trans (dq_in h))
theorem dX0_isWithin_0 : decode cX0_isWithin 0 = .ok (.iconst 0, 1) := @dq_o3 cX0_isWithin 0 (qX0_isWithin_0 0 3 rfl)
theorem dX0_isWithin_1 : decode cX0_isWithin 1 = .ok (.istore_n 3, 1) := @dq_o62 cX0_isWithin 1 (qX0_isWithin_0 1 62 rfl)
theorem dX0_isWithin_2 : decode cX0_isWithin 2 = .ok (.iload_n 3, 1) := @dq_o29 cX0_isWithin 2 (qX0_isWithin_0 2 29 rfl)
theorem dX0_isWithin_3 : decode cX0_isWithin 3 = .ok (.bipush 6, 2) := @dq_o16 cX0_isWithin 3 6 (qX0_isWithin_0 3 16 rfl) (qX0_isWithin_0 4 6 rfl)
theorem dX0_isWithin_5 : decode cX0_isWithin 5 = .ok (.if_icmp .ge 28, 3) := @dq_o162 cX0_isWithin 5 0 28 (qX0_isWithin_0 5 162 rfl) (qX0_isWithin_0 6 0 rfl) (qX0_isWithin_0 7 28 rfl)
theorem dX0_isWithin_8 : decode cX0_isWithin 8 = .ok (.aload_n 0, 1) := @dq_o42 cX0_isWithin 8 (qX0_isWithin_0 8 42 rfl)
theorem dX0_isWithin_9 : decode cX0_isWithin 9 = .ok (.iload_n 3, 1) := @dq_o29 cX0_isWithin 9 (qX0_isWithin_0 9 29 rfl)
theorem dX0_isWithin_10 : decode cX0_isWithin 10 = .ok (.laload, 1) := @dq_o47 cX0_isWithin 10 (qX0_isWithin_0 10 47 rfl)
theorem dX0_isWithin_11 : decode cX0_isWithin 11 = .ok (.lload_n 1, 1) := @dq_o31 cX0_isWithin 11 (qX0_isWithin_0 11 31 rfl)
theorem dX0_isWithin_12 : decode cX0_isWithin 12 = .ok (.lneg, 1) := @dq_o117 cX0_isWithin 12 (qX0_isWithin_0 12 117 rfl)
theorem dX0_isWithin_13 : decode cX0_isWithin 13 = .ok (.lcmp, 1) := @dq_o148 cX0_isWithin 13 (qX0_isWithin_0 13 148 rfl)
theorem dX0_isWithin_14 : decode cX0_isWithin 14 = .ok (.ifCond .lt 11, 3) := @dq_o155 cX0_isWithin 14 0 11 (qX0_isWithin_0 14 155 rfl) (qX0_isWithin_0 15 0 rfl) (qX0_isWithin_1 0 11 rfl)
theorem dX0_isWithin_17 : decode cX0_isWithin 17 = .ok (.aload_n 0, 1) := @dq_o42 cX0_isWithin 17 (qX0_isWithin_1 1 42 rfl)
theorem dX0_isWithin_18 : decode cX0_isWithin 18 = .ok (.iload_n 3, 1) := @dq_o29 cX0_isWithin 18 (qX0_isWithin_1 2 29 rfl)
theorem dX0_isWithin_19 : decode cX0_isWithin 19 = .ok (.laload, 1) := @dq_o47 cX0_isWithin 19 (qX0_isWithin_1 3 47 rfl)
theorem dX0_isWithin_20 : decode cX0_isWithin 20 = .ok (.lload_n 1, 1) := @dq_o31 cX0_isWithin 20 (qX0_isWithin_1 4 31 rfl)
theorem dX0_isWithin_21 : decode cX0_isWithin 21 = .ok (.lcmp, 1) := @dq_o148 cX0_isWithin 21 (qX0_isWithin_1 5 148 rfl)
theorem dX0_isWithin_22 : decode cX0_isWithin 22 = .ok (.ifCond .le 5, 3) := @dq_o158 cX0_isWithin 22 0 5 (qX0_isWithin_1 6 158 rfl) (qX0_isWithin_1 7 0 rfl) (qX0_isWithin_1 8 5 rfl)
theorem dX0_isWithin_25 : decode cX0_isWithin 25 = .ok (.iconst 0, 1) := @dq_o3 cX0_isWithin 25 (qX0_isWithin_1 9 3 rfl)
theorem dX0_isWithin_26 : decode cX0_isWithin 26 = .ok (.ireturn, 1) := @dq_o172 cX0_isWithin 26 (qX0_isWithin_1 10 172 rfl)
theorem dX0_isWithin_27 : decode cX0_isWithin 27 = .ok (.iinc 3 1, 3) := @dq_o132 cX0_isWithin 27 3 1 (qX0_isWithin_1 11 132 rfl) (qX0_isWithin_1 12 3 rfl) (qX0_isWithin_1 13 1 rfl)
theorem dX0_isWithin_30 : decode cX0_isWithin 30 = .ok (.goto (-28), 3) := @dq_o167 cX0_isWithin 30 255 228 (qX0_isWithin_1 14 167 rfl) (qX0_isWithin_1 15 255 rfl) (qX0_isWithin_2 0 228 rfl)
theorem dX0_isWithin_33 : decode cX0_isWithin 33 = .ok (.iconst 1, 1) := @dq_o4 cX0_isWithin 33 (qX0_isWithin_2 1 4 rfl)
theorem dX0_isWithin_34 : decode cX0_isWithin 34 = .ok (.ireturn, 1) := @dq_o172 cX0_isWithin 34 (qX0_isWithin_2 2 172 rfl)
abbrev qaX0_makeGenerator_0 : List Nat := [42, 9, 184, 0, 47, 27, 155, 0, 13, 27, 16, 6, 162, 0, 7, 42]
abbrev qaX0_makeGenerator_1 : List Nat := [27, 32, 80, 177]
def qtX0_makeGenerator_2 : List Nat := []
def qtX0_makeGenerator_1 : List Nat := qaX0_makeGenerator_1 ++ qtX0_makeGenerator_2
def qtX0_makeGenerator_0 : List Nat := qaX0_makeGenerator_0 ++ qtX0_makeGenerator_1
theorem qeX0_makeGenerator : cX0_makeGenerator.data.toList.map UInt8.toNat = qtX0_makeGenerator_0 := by decide +kernel
theorem qsX0_makeGenerator_0 : ∀ i, dqNth qtX0_makeGenerator_0 (0 + i) = dqNth qtX0_makeGenerator_0 i := fun i => by rw [Nat.zero_add]
theorem qsX0_makeGenerator_1 : ∀ i, dqNth qtX0_makeGenerator_0 (16 + i) = dqNth qtX0_makeGenerator_1 i := dq_step qsX0_makeGenerator_0 rfl rfl
theorem qX0_makeGenerator_0 (i b : Nat) (h : dqNth qaX0_makeGenerator_0 i = some b) : DqBy cX0_makeGenerator (0 + i) b := dqBy_of qeX0_makeGenerator ((qsX0_makeGenerator_0 i).trans (dq_in h))
theorem qX0_makeGenerator_1 (i b : Nat) (h : dqNth qaX0_makeGenerator_1 i = some b) : DqBy cX0_makeGenerator (16 + i) b := dqBy_of qeX0_makeGenerator ((qsX0_makeGenerator_1 i).trans (dq_in h))
theorem dX0_makeGenerator_0 : decode cX0_makeGenerator 0 = .ok (.aload_n 0, 1) := @dq_o42 cX0_makeGenerator 0 (qX0_makeGenerator_0 0 42 rfl)
theorem dX0_makeGenerator_1 : decode cX0_makeGenerator 1 = .ok (.lconst 0, 1) := @dq_o9 cX0_makeGenerator 1 (qX0_makeGenerator_0 1 9 rfl)
theorem dX0_makeGenerator_2 : decode cX0_makeGenerator 2 = .ok (.invokestatic 47, 3) := @dq_o184 cX0_makeGenerator 2 0 47 (qX0_makeGenerator_0 2 184 rfl) (qX0_makeGenerator_0 3 0 rfl) (qX0_makeGenerator_0 4 47 rfl)
theorem dX0_makeGenerator_5 : decode cX0_makeGenerator 5 = .ok (.iload_n 1, 1) := @dq_o27 cX0_makeGenerator 5 (qX0_makeGenerator_0 5 27 rfl)
theorem dX0_makeGenerator_6 : decode cX0_makeGenerator 6 = .ok (.ifCond .lt 13, 3) := @dq_o155 cX0_makeGenerator 6 0 13 (qX0_makeGenerator_0 6 155 rfl) (qX0_makeGenerator_0 7 0 rfl) (qX0_makeGenerator_0 8 13 rfl)
theorem dX0_makeGenerator_9 : decode cX0_makeGenerator 9 = .ok (.iload_n 1, 1) := @dq_o27 cX0_makeGenerator 9 (qX0_makeGenerator_0 9 27 rfl)
theorem dX0_makeGenerator_10 : decode cX0_makeGenerator 10 = .ok (.bipush 6, 2) := @dq_o16 cX0_makeGenerator 10 6 (qX0_makeGenerator_0 10 16 rfl) (qX0_makeGenerator_0 11 6 rfl)
theorem dX0_makeGenerator_12 : decode cX0_makeGenerator 12 = .ok (.if_icmp .ge 7, 3) := @dq_o162 cX0_makeGenerator 12 0 7 (qX0_makeGenerator_0 12 162 rfl) (qX0_makeGenerator_0 13 0 rfl) (qX0_makeGenerator_0 14 7 rfl)
theorem dX0_makeGenerator_15 : decode cX0_makeGenerator 15 = .ok (.aload_n 0, 1) := @dq_o42 cX0_makeGenerator 15 (qX0_makeGenerator_0 15 42 rfl)
theorem dX0_makeGenerator_16 : decode cX0_makeGenerator 16 = .ok (.iload_n 1, 1) := @dq_o27 cX0_makeGenerator 16 (qX0_makeGenerator_1 0 27 rfl)
theorem dX0_makeGenerator_17 : decode cX0_makeGenerator 17 = .ok (.lload_n 2, 1) := @dq_o32 cX0_makeGenerator 17 (qX0_makeGenerator_1 1 32 rfl)
theorem dX0_makeGenerator_18 : decode cX0_makeGenerator 18 = .ok (.lastore, 1) := @dq_o80 cX0_makeGenerator 18 (qX0_makeGenerator_1 2 80 rfl)
theorem dX0_makeGenerator_19 : decode cX0_makeGenerator 19 = .ok (.return_, 1) := @dq_o177 cX0_makeGenerator 19 (qX0_makeGenerator_1 3 177 rfl)
abbrev qaX0_product_0 : List Nat := [3, 54, 4, 21, 4, 16, 6, 162, 0, 38, 42, 180, 0, 9, 21, 4]
abbrev qaX0_product_1 : List Nat := [44, 21, 4, 47, 184, 0, 53, 42, 180, 0, 9, 16, 6, 21, 4, 96]
abbrev qaX0_product_2 : List Nat := [45, 21, 4, 47, 184, 0, 53, 132, 4, 1, 167, 255, 217, 3, 54, 4]
abbrev qaX0_product_3 : List Nat := [21, 4, 16, 6, 162, 0, 30, 43, 21, 4, 42, 180, 0, 33, 180, 0]
abbrev qaX0_product_4 : List Nat := [59, 21, 4, 50, 42, 180, 0, 9, 182, 0, 63, 80, 132, 4, 1, 167]
abbrev qaX0_product_5 : List Nat := [255, 225, 177]
def qtX0_product_6 : List Nat := []
def qtX0_product_5 : List Nat := qaX0_product_5 ++ qtX0_product_6
def qtX0_product_4 : List Nat := qaX0_product_4 ++ qtX0_product_5
def qtX0_product_3 : List Nat := qaX0_product_3 ++ qtX0_product_4
def qtX0_product_2 : List Nat := qaX0_product_2 ++ qtX0_product_3
def qtX0_product_1 : List Nat := qaX0_product_1 ++ qtX0_product_2
def qtX0_product_0 : List Nat := qaX0_product_0 ++ qtX0_product_1
theorem qeX0_product : cX0_product.data.toList.map UInt8.toNat = qtX0_product_0 := by decide +kernel
theorem qsX0_product_0 : ∀ i, dqNth qtX0_product_0 (0 + i) = dqNth qtX0_product_0 i := fun i => by rw [Nat.zero_add]
theorem qsX0_product_1 : ∀ i, dqNth qtX0_product_0 (16 + i) = dqNth qtX0_product_1 i := dq_step qsX0_product_0 rfl rfl
theorem qsX0_product_2 : ∀ i, dqNth qtX0_product_0 (32 + i) = dqNth qtX0_product_2 i := dq_step qsX0_product_1 rfl rfl
theorem qsX0_product_3 : ∀ i, dqNth qtX0_product_0 (48 + i) = dqNth qtX0_product_3 i := dq_step qsX0_product_2 rfl rfl
theorem qsX0_product_4 : ∀ i, dqNth qtX0_product_0 (64 + i) = dqNth qtX0_product_4 i := dq_step qsX0_product_3 rfl rfl
theorem qsX0_product_5 : ∀ i, dqNth qtX0_product_0 (80 + i) = dqNth qtX0_product_5 i := dq_step qsX0_product_4 rfl rfl
theorem qX0_product_0 (i b : Nat) (h : dqNth qaX0_product_0 i = some b) : DqBy cX0_product (0 + i) b := dqBy_of qeX0_product ((qsX0_product_0 i).trans (dq_in h))
theorem qX0_product_1 (i b : Nat) (h : dqNth qaX0_product_1 i = some b) : DqBy cX0_product (16 + i) b := dqBy_of qeX0_product ((qsX0_product_1 i).trans (dq_in h))
theorem qX0_product_2 (i b : Nat) (h : dqNth qaX0_product_2 i = some b) : DqBy cX0_product (32 + i) b := dqBy_of qeX0_product ((qsX0_product_2 i).trans (dq_in h))
theorem qX0_product_3 (i b : Nat) (h : dqNth qaX0_product_3 i = some b) : DqBy cX0_product (48 + i) b := dqBy_of qeX0_product ((qsX0_product_3 i).trans (dq_in h))
theorem qX0_product_4 (i b : Nat) (h : dqNth qaX0_product_4 i = some b) : DqBy cX0_product (64 + i) b := dqBy_of qeX0_product ((qsX0_product_4 i).trans (dq_in h))
theorem qX0_product_5 (i b : Nat) (h : dqNth qaX0_product_5 i = some b) : DqBy cX0_product (80 + i) b := dqBy_of qeX0_product ((qsX0_product_5 i).trans (dq_in h))
theorem dX0_product_0 : decode cX0_product 0 = .ok (.iconst 0, 1) := @dq_o3 cX0_product 0 (qX0_product_0 0 3 rfl)
theorem dX0_product_1 : decode cX0_product 1 = .ok (.istore 4, 2) := @dq_o54 cX0_product 1 4 (qX0_product_0 1 54 rfl) (qX0_product_0 2 4 rfl)
theorem dX0_product_3 : decode cX0_product 3 = .ok (.iload 4, 2) := @dq_o21 cX0_product 3 4 (qX0_product_0 3 21 rfl) (qX0_product_0 4 4 rfl)
theorem dX0_product_5 : decode cX0_product 5 = .ok (.bipush 6, 2) := @dq_o16 cX0_product 5 6 (qX0_product_0 5 16 rfl) (qX0_product_0 6 6 rfl)
theorem dX0_product_7 : decode cX0_product 7 = .ok (.if_icmp .ge 38, 3) := @dq_o162 cX0_product 7 0 38 (qX0_product_0 7 162 rfl) (qX0_product_0 8 0 rfl) (qX0_product_0 9 38 rfl)
theorem dX0_product_10 : decode cX0_product 10 = .ok (.aload_n 0, 1) := @dq_o42 cX0_product 10 (qX0_product_0 10 42 rfl)
theorem dX0_product_11 : decode cX0_product 11 = .ok (.getfield 9, 3) := @dq_o180 cX0_product 11 0 9 (qX0_product_0 11 180 rfl) (qX0_product_0 12 0 rfl) (qX0_product_0 13 9 rfl)
theorem dX0_product_14 : decode cX0_product 14 = .ok (.iload 4, 2) := @dq_o21 cX0_product 14 4 (qX0_product_0 14 21 rfl) (qX0_product_0 15 4 rfl)
theorem dX0_product_16 : decode cX0_product 16 = .ok (.aload_n 2, 1) := @dq_o44 cX0_product 16 (qX0_product_1 0 44 rfl)
theorem dX0_product_17 : decode cX0_product 17 = .ok (.iload 4, 2) := @dq_o21 cX0_product 17 4 (qX0_product_1 1 21 rfl) (qX0_product_1 2 4 rfl)
theorem dX0_product_19 : decode cX0_product 19 = .ok (.laload, 1) := @dq_o47 cX0_product 19 (qX0_product_1 3 47 rfl)
theorem dX0_product_20 : decode cX0_product 20 = .ok (.invokestatic 53, 3) := @dq_o184 cX0_product 20 0 53 (qX0_product_1 4 184 rfl) (qX0_product_1 5 0 rfl) (qX0_product_1 6 53 rfl)
theorem dX0_product_23 : decode cX0_product 23 = .ok (.aload_n 0, 1) := @dq_o42 cX0_product 23 (qX0_product_1 7 42 rfl)
theorem dX0_product_24 : decode cX0_product 24 = .ok (.getfield 9, 3) := @dq_o180 cX0_product 24 0 9 (qX0_product_1 8 180 rfl) (qX0_product_1 9 0 rfl) (qX0_product_1 10 9 rfl)
theorem dX0_product_27 : decode cX0_product 27 = .ok (.bipush 6, 2) := @dq_o16 cX0_product 27 6 (qX0_product_1 11 16 rfl) (qX0_product_1 12 6 rfl)
theorem dX0_product_29 : decode cX0_product 29 = .ok (.iload 4, 2) := @dq_o21 cX0_product 29 4 (qX0_product_1 13 21 rfl) (qX0_product_1 14 4 rfl)
theorem dX0_product_31 : decode cX0_product 31 = .ok (.iadd, 1) := @dq_o96 cX0_product 31 (qX0_product_1 15 96 rfl)
theorem dX0_product_32 : decode cX0_product 32 = .ok (.aload_n 3, 1) := @dq_o45 cX0_product 32 (qX0_product_2 0 45 rfl)
theorem dX0_product_33 : decode cX0_product 33 = .ok (.iload 4, 2) := @dq_o21 cX0_product 33 4 (qX0_product_2 1 21 rfl) (qX0_product_2 2 4 rfl)
theorem dX0_product_35 : decode cX0_product 35 = .ok (.laload, 1) := @dq_o47 cX0_product 35 (qX0_product_2 3 47 rfl)
theorem dX0_product_36 : decode cX0_product 36 = .ok (.invokestatic 53, 3) := @dq_o184 cX0_product 36 0 53 (qX0_product_2 4 184 rfl) (qX0_product_2 5 0 rfl) (qX0_product_2 6 53 rfl)
theorem dX0_product_39 : decode cX0_product 39 = .ok (.iinc 4 1, 3) := @dq_o132 cX0_product 39 4 1 (qX0_product_2 7 132 rfl) (qX0_product_2 8 4 rfl) (qX0_product_2 9 1 rfl)
theorem dX0_product_42 : decode cX0_product 42 = .ok (.goto (-39), 3) := @dq_o167 cX0_product 42 255 217 (qX0_product_2 10 167 rfl) (qX0_product_2 11 255 rfl) (qX0_product_2 12 217 rfl)
theorem dX0_product_45 : decode cX0_product 45 = .ok (.iconst 0, 1) := @dq_o3 cX0_product 45 (qX0_product_2 13 3 rfl)
theorem dX0_product_46 : decode cX0_product 46 = .ok (.istore 4, 2) := @dq_o54 cX0_product 46 4 (qX0_product_2 14 54 rfl) (qX0_product_2 15 4 rfl)
theorem dX0_product_48 : decode cX0_product 48 = .ok (.iload 4, 2) := @dq_o21 cX0_product 48 4 (qX0_product_3 0 21 rfl) (qX0_product_3 1 4 rfl)
theorem dX0_product_50 : decode cX0_product 50 = .ok (.bipush 6, 2) := @dq_o16 cX0_product 50 6 (qX0_product_3 2 16 rfl) (qX0_product_3 3 6 rfl)
theorem dX0_product_52 : decode cX0_product 52 = .ok (.if_icmp .ge 30, 3) := @dq_o162 cX0_product 52 0 30 (qX0_product_3 4 162 rfl) (qX0_product_3 5 0 rfl) (qX0_product_3 6 30 rfl)
theorem dX0_product_55 : decode cX0_product 55 = .ok (.aload_n 1, 1) := @dq_o43 cX0_product 55 (qX0_product_3 7 43 rfl)
theorem dX0_product_56 : decode cX0_product 56 = .ok (.iload 4, 2) := @dq_o21 cX0_product 56 4 (qX0_product_3 8 21 rfl) (qX0_product_3 9 4 rfl)
theorem dX0_product_58 : decode cX0_product 58 = .ok (.aload_n 0, 1) := @dq_o42 cX0_product 58 (qX0_product_3 10 42 rfl)
theorem dX0_product_59 : decode cX0_product 59 = .ok (.getfield 33, 3) := @dq_o180 cX0_product 59 0 33 (qX0_product_3 11 180 rfl) (qX0_product_3 12 0 rfl) (qX0_product_3 13 33 rfl)
theorem dX0_product_62 : decode cX0_product 62 = .ok (.getfield 59, 3) := @dq_o180 cX0_product 62 0 59 (qX0_product_3 14 180 rfl) (qX0_product_3 15 0 rfl) (qX0_product_4 0 59 rfl)
theorem dX0_product_65 : decode cX0_product 65 = .ok (.iload 4, 2) := @dq_o21 cX0_product 65 4 (qX0_product_4 1 21 rfl) (qX0_product_4 2 4 rfl)
theorem dX0_product_67 : decode cX0_product 67 = .ok (.aaload, 1) := @dq_o50 cX0_product 67 (qX0_product_4 3 50 rfl)
theorem dX0_product_68 : decode cX0_product 68 = .ok (.aload_n 0, 1) := @dq_o42 cX0_product 68 (qX0_product_4 4 42 rfl)
theorem dX0_product_69 : decode cX0_product 69 = .ok (.getfield 9, 3) := @dq_o180 cX0_product 69 0 9 (qX0_product_4 5 180 rfl) (qX0_product_4 6 0 rfl) (qX0_product_4 7 9 rfl)
theorem dX0_product_72 : decode cX0_product 72 = .ok (.invokevirtual 63, 3) := @dq_o182 cX0_product 72 0 63 (qX0_product_4 8 182 rfl) (qX0_product_4 9 0 rfl) (qX0_product_4 10 63 rfl)
theorem dX0_product_75 : decode cX0_product 75 = .ok (.lastore, 1) := @dq_o80 cX0_product 75 (qX0_product_4 11 80 rfl)
theorem dX0_product_76 : decode cX0_product 76 = .ok (.iinc 4 1, 3) := @dq_o132 cX0_product 76 4 1 (qX0_product_4 12 132 rfl) (qX0_product_4 13 4 rfl) (qX0_product_4 14 1 rfl)
theorem dX0_product_79 : decode cX0_product 79 = .ok (.goto (-31), 3) := @dq_o167 cX0_product 79 255 225 (qX0_product_4 15 167 rfl) (qX0_product_5 0 255 rfl) (qX0_product_5 1 225 rfl)
theorem dX0_product_82 : decode cX0_product 82 = .ok (.return_, 1) := @dq_o177 cX0_product 82 (qX0_product_5 2 177 rfl)
abbrev qaX0_inverse_0 : List Nat := [3, 62, 29, 16, 6, 162, 0, 32, 42, 180, 0, 9, 29, 44, 29, 47]
abbrev qaX0_inverse_1 : List Nat := [184, 0, 53, 42, 180, 0, 9, 16, 6, 29, 96, 9, 184, 0, 53, 132]
abbrev qaX0_inverse_2 : List Nat := [3, 1, 167, 255, 224, 3, 62, 29, 16, 6, 162, 0, 43, 43, 29, 42]
abbrev qaX0_inverse_3 : List Nat := [180, 0, 33, 180, 0, 59, 29, 50, 42, 180, 0, 9, 182, 0, 63, 117]
abbrev qaX0_inverse_4 : List Nat := [80, 42, 180, 0, 9, 16, 6, 29, 96, 43, 29, 47, 184, 0, 53, 132]
abbrev qaX0_inverse_5 : List Nat := [3, 1, 167, 255, 213, 177]
def qtX0_inverse_6 : List Nat := []
def qtX0_inverse_5 : List Nat := qaX0_inverse_5 ++ qtX0_inverse_6
def qtX0_inverse_4 : List Nat := qaX0_inverse_4 ++ qtX0_inverse_5
def qtX0_inverse_3 : List Nat := qaX0_inverse_3 ++ qtX0_inverse_4
def qtX0_inverse_2 : List Nat := qaX0_inverse_2 ++ qtX0_inverse_3
def qtX0_inverse_1 : List Nat := qaX0_inverse_1 ++ qtX0_inverse_2
def qtX0_inverse_0 : List Nat := qaX0_inverse_0 ++ qtX0_inverse_1
theorem qeX0_inverse : cX0_inverse.data.toList.map UInt8.toNat = qtX0_inverse_0 := by decide +kernel
theorem qsX0_inverse_0 : ∀ i, dqNth qtX0_inverse_0 (0 + i) = dqNth qtX0_inverse_0 i := fun i => by rw [Nat.zero_add]
theorem qsX0_inverse_1 : ∀ i, dqNth qtX0_inverse_0 (16 + i) = dqNth qtX0_inverse_1 i := dq_step qsX0_inverse_0 rfl rfl
theorem qsX0_inverse_2 : ∀ i, dqNth qtX0_inverse_0 (32 + i) = dqNth qtX0_inverse_2 i := dq_step qsX0_inverse_1 rfl rfl
theorem qsX0_inverse_3 : ∀ i, dqNth qtX0_inverse_0 (48 + i) = dqNth qtX0_inverse_3 i := dq_step qsX0_inverse_2 rfl rfl
theorem qsX0_inverse_4 : ∀ i, dqNth qtX0_inverse_0 (64 + i) = dqNth qtX0_inverse_4 i := dq_step qsX0_inverse_3 rfl rfl
theorem qsX0_inverse_5 : ∀ i, dqNth qtX0_inverse_0 (80 + i) = dqNth qtX0_inverse_5 i := dq_step qsX0_inverse_4 rfl rfl
theorem qX0_inverse_0 (i b : Nat) (h : dqNth qaX0_inverse_0 i = some b) : DqBy cX0_inverse (0 + i) b := dqBy_of qeX0_inverse ((qsX0_inverse_0 i).trans (dq_in h))
theorem qX0_inverse_1 (i b : Nat) (h : dqNth qaX0_inverse_1 i = some b) : DqBy cX0_inverse (16 + i) b := dqBy_of qeX0_inverse ((qsX0_inverse_1 i).trans (dq_in h))
theorem qX0_inverse_2 (i b : Nat) (h : dqNth qaX0_inverse_2 i = some b) : DqBy cX0_inverse (32 + i) b := dqBy_of qeX0_inverse ((qsX0_inverse_2 i).trans (dq_in h))
theorem qX0_inverse_3 (i b : Nat) (h : dqNth qaX0_inverse_3 i = some b) : DqBy cX0_inverse (48 + i) b := dqBy_of qeX0_inverse ((qsX0_inverse_3 i).trans (dq_in h))
theorem qX0_inverse_4 (i b : Nat) (h : dqNth qaX0_inverse_4 i = some b) : DqBy cX0_inverse (64 + i) b := dqBy_of qeX0_inverse ((qsX0_inverse_4 i).trans (dq_in h))
theorem qX0_inverse_5 (i b : Nat) (h : dqNth qaX0_inverse_5 i = some b) : DqBy cX0_inverse (80 + i) b := dqBy_of qeX0_inverse ((qsX0_inverse_5 i).trans (dq_in h))
theorem dX0_inverse_0 : decode cX0_inverse 0 = .ok (.iconst 0, 1) := @dq_o3 cX0_inverse 0 (qX0_inverse_0 0 3 rfl)
theorem dX0_inverse_1 : decode cX0_inverse 1 = .ok (.istore_n 3, 1) := @dq_o62 cX0_inverse 1 (qX0_inverse_0 1 62 rfl)
theorem dX0_inverse_2 : decode cX0_inverse 2 = .ok (.iload_n 3, 1) := @dq_o29 cX0_inverse 2 (qX0_inverse_0 2 29 rfl)
theorem dX0_inverse_3 : decode cX0_inverse 3 = .ok (.bipush 6, 2) := @dq_o16 cX0_inverse 3 6 (qX0_inverse_0 3 16 rfl) (qX0_inverse_0 4 6 rfl)
theorem dX0_inverse_5 : decode cX0_inverse 5 = .ok (.if_icmp .ge 32, 3) := @dq_o162 cX0_inverse 5 0 32 (qX0_inverse_0 5 162 rfl) (qX0_inverse_0 6 0 rfl) (qX0_inverse_0 7 32 rfl)
theorem dX0_inverse_8 : decode cX0_inverse 8 = .ok (.aload_n 0, 1) := @dq_o42 cX0_inverse 8 (qX0_inverse_0 8 42 rfl)
theorem dX0_inverse_9 : decode cX0_inverse 9 = .ok (.getfield 9, 3) := @dq_o180 cX0_inverse 9 0 9 (qX0_inverse_0 9 180 rfl) (qX0_inverse_0 10 0 rfl) (qX0_inverse_0 11 9 rfl)
theorem dX0_inverse_12 : decode cX0_inverse 12 = .ok (.iload_n 3, 1) := @dq_o29 cX0_inverse 12 (qX0_inverse_0 12 29 rfl)
theorem dX0_inverse_13 : decode cX0_inverse 13 = .ok (.aload_n 2, 1) := @dq_o44 cX0_inverse 13 (qX0_inverse_0 13 44 rfl)
theorem dX0_inverse_14 : decode cX0_inverse 14 = .ok (.iload_n 3, 1) := @dq_o29 cX0_inverse 14 (qX0_inverse_0 14 29 rfl)
theorem dX0_inverse_15 : decode cX0_inverse 15 = .ok (.laload, 1) := @dq_o47 cX0_inverse 15 (qX0_inverse_0 15 47 rfl)
theorem dX0_inverse_16 : decode cX0_inverse 16 = .ok (.invokestatic 53, 3) := @dq_o184 cX0_inverse 16 0 53 (qX0_inverse_1 0 184 rfl) (qX0_inverse_1 1 0 rfl) (qX0_inverse_1 2 53 rfl)
theorem dX0_inverse_19 : decode cX0_inverse 19 = .ok (.aload_n 0, 1) := @dq_o42 cX0_inverse 19 (qX0_inverse_1 3 42 rfl)
theorem dX0_inverse_20 : decode cX0_inverse 20 = .ok (.getfield 9, 3) := @dq_o180 cX0_inverse 20 0 9 (qX0_inverse_1 4 180 rfl) (qX0_inverse_1 5 0 rfl) (qX0_inverse_1 6 9 rfl)
theorem dX0_inverse_23 : decode cX0_inverse 23 = .ok (.bipush 6, 2) := @dq_o16 cX0_inverse 23 6 (qX0_inverse_1 7 16 rfl) (qX0_inverse_1 8 6 rfl)
theorem dX0_inverse_25 : decode cX0_inverse 25 = .ok (.iload_n 3, 1) := @dq_o29 cX0_inverse 25 (qX0_inverse_1 9 29 rfl)
theorem dX0_inverse_26 : decode cX0_inverse 26 = .ok (.iadd, 1) := @dq_o96 cX0_inverse 26 (qX0_inverse_1 10 96 rfl)
theorem dX0_inverse_27 : decode cX0_inverse 27 = .ok (.lconst 0, 1) := @dq_o9 cX0_inverse 27 (qX0_inverse_1 11 9 rfl)
theorem dX0_inverse_28 : decode cX0_inverse 28 = .ok (.invokestatic 53, 3) := @dq_o184 cX0_inverse 28 0 53 (qX0_inverse_1 12 184 rfl) (qX0_inverse_1 13 0 rfl) (qX0_inverse_1 14 53 rfl)
theorem dX0_inverse_31 : decode cX0_inverse 31 = .ok (.iinc 3 1, 3) := @dq_o132 cX0_inverse 31 3 1 (qX0_inverse_1 15 132 rfl) (qX0_inverse_2 0 3 rfl) (qX0_inverse_2 1 1 rfl)
theorem dX0_inverse_34 : decode cX0_inverse 34 = .ok (.goto (-32), 3) := @dq_o167 cX0_inverse 34 255 224 (qX0_inverse_2 2 167 rfl) (qX0_inverse_2 3 255 rfl) (qX0_inverse_2 4 224 rfl)
theorem dX0_inverse_37 : decode cX0_inverse 37 = .ok (.iconst 0, 1) := @dq_o3 cX0_inverse 37 (qX0_inverse_2 5 3 rfl)
theorem dX0_inverse_38 : decode cX0_inverse 38 = .ok (.istore_n 3, 1) := @dq_o62 cX0_inverse 38 (qX0_inverse_2 6 62 rfl)
theorem dX0_inverse_39 : decode cX0_inverse 39 = .ok (.iload_n 3, 1) := @dq_o29 cX0_inverse 39 (qX0_inverse_2 7 29 rfl)
theorem dX0_inverse_40 : decode cX0_inverse 40 = .ok (.bipush 6, 2) := @dq_o16 cX0_inverse 40 6 (qX0_inverse_2 8 16 rfl) (qX0_inverse_2 9 6 rfl)
theorem dX0_inverse_42 : decode cX0_inverse 42 = .ok (.if_icmp .ge 43, 3) := @dq_o162 cX0_inverse 42 0 43 (qX0_inverse_2 10 162 rfl) (qX0_inverse_2 11 0 rfl) (qX0_inverse_2 12 43 rfl)
theorem dX0_inverse_45 : decode cX0_inverse 45 = .ok (.aload_n 1, 1) := @dq_o43 cX0_inverse 45 (qX0_inverse_2 13 43 rfl)
theorem dX0_inverse_46 : decode cX0_inverse 46 = .ok (.iload_n 3, 1) := @dq_o29 cX0_inverse 46 (qX0_inverse_2 14 29 rfl)
theorem dX0_inverse_47 : decode cX0_inverse 47 = .ok (.aload_n 0, 1) := @dq_o42 cX0_inverse 47 (qX0_inverse_2 15 42 rfl)
theorem dX0_inverse_48 : decode cX0_inverse 48 = .ok (.getfield 33, 3) := @dq_o180 cX0_inverse 48 0 33 (qX0_inverse_3 0 180 rfl) (qX0_inverse_3 1 0 rfl) (qX0_inverse_3 2 33 rfl)
theorem dX0_inverse_51 : decode cX0_inverse 51 = .ok (.getfield 59, 3) := @dq_o180 cX0_inverse 51 0 59 (qX0_inverse_3 3 180 rfl) (qX0_inverse_3 4 0 rfl) (qX0_inverse_3 5 59 rfl)
theorem dX0_inverse_54 : decode cX0_inverse 54 = .ok (.iload_n 3, 1) := @dq_o29 cX0_inverse 54 (qX0_inverse_3 6 29 rfl)
theorem dX0_inverse_55 : decode cX0_inverse 55 = .ok (.aaload, 1) := @dq_o50 cX0_inverse 55 (qX0_inverse_3 7 50 rfl)
theorem dX0_inverse_56 : decode cX0_inverse 56 = .ok (.aload_n 0, 1) := @dq_o42 cX0_inverse 56 (qX0_inverse_3 8 42 rfl)
theorem dX0_inverse_57 : decode cX0_inverse 57 = .ok (.getfield 9, 3) := @dq_o180 cX0_inverse 57 0 9 (qX0_inverse_3 9 180 rfl) (qX0_inverse_3 10 0 rfl) (qX0_inverse_3 11 9 rfl)
theorem dX0_inverse_60 : decode cX0_inverse 60 = .ok (.invokevirtual 63, 3) := @dq_o182 cX0_inverse 60 0 63 (qX0_inverse_3 12 182 rfl) (qX0_inverse_3 13 0 rfl) (qX0_inverse_3 14 63 rfl)
theorem dX0_inverse_63 : decode cX0_inverse 63 = .ok (.lneg, 1) := @dq_o117 cX0_inverse 63 (qX0_inverse_3 15 117 rfl)
theorem dX0_inverse_64 : decode cX0_inverse 64 = .ok (.lastore, 1) := @dq_o80 cX0_inverse 64 (qX0_inverse_4 0 80 rfl)
theorem dX0_inverse_65 : decode cX0_inverse 65 = .ok (.aload_n 0, 1) := @dq_o42 cX0_inverse 65 (qX0_inverse_4 1 42 rfl)
theorem dX0_inverse_66 : decode cX0_inverse 66 = .ok (.getfield 9, 3) := @dq_o180 cX0_inverse 66 0 9 (qX0_inverse_4 2 180 rfl) (qX0_inverse_4 3 0 rfl) (qX0_inverse_4 4 9 rfl)
theorem dX0_inverse_69 : decode cX0_inverse 69 = .ok (.bipush 6, 2) := @dq_o16 cX0_inverse 69 6 (qX0_inverse_4 5 16 rfl) (qX0_inverse_4 6 6 rfl)
theorem dX0_inverse_71 : decode cX0_inverse 71 = .ok (.iload_n 3, 1) := @dq_o29 cX0_inverse 71 (qX0_inverse_4 7 29 rfl)
theorem dX0_inverse_72 : decode cX0_inverse 72 = .ok (.iadd, 1) := @dq_o96 cX0_inverse 72 (qX0_inverse_4 8 96 rfl)
theorem dX0_inverse_73 : decode cX0_inverse 73 = .ok (.aload_n 1, 1) := @dq_o43 cX0_inverse 73 (qX0_inverse_4 9 43 rfl)
theorem dX0_inverse_74 : decode cX0_inverse 74 = .ok (.iload_n 3, 1) := @dq_o29 cX0_inverse 74 (qX0_inverse_4 10 29 rfl)
theorem dX0_inverse_75 : decode cX0_inverse 75 = .ok (.laload, 1) := @dq_o47 cX0_inverse 75 (qX0_inverse_4 11 47 rfl)
theorem dX0_inverse_76 : decode cX0_inverse 76 = .ok (.invokestatic 53, 3) := @dq_o184 cX0_inverse 76 0 53 (qX0_inverse_4 12 184 rfl) (qX0_inverse_4 13 0 rfl) (qX0_inverse_4 14 53 rfl)
theorem dX0_inverse_79 : decode cX0_inverse 79 = .ok (.iinc 3 1, 3) := @dq_o132 cX0_inverse 79 3 1 (qX0_inverse_4 15 132 rfl) (qX0_inverse_5 0 3 rfl) (qX0_inverse_5 1 1 rfl)
theorem dX0_inverse_82 : decode cX0_inverse 82 = .ok (.goto (-43), 3) := @dq_o167 cX0_inverse 82 255 213 (qX0_inverse_5 2 167 rfl) (qX0_inverse_5 3 255 rfl) (qX0_inverse_5 4 213 rfl)
theorem dX0_inverse_85 : decode cX0_inverse 85 = .ok (.return_, 1) := @dq_o177 cX0_inverse 85 (qX0_inverse_5 5 177 rfl)
abbrev qaX0_commutator_0 : List Nat := [42, 42, 180, 0, 30, 44, 45, 182, 0, 69, 42, 42, 180, 0, 27, 45]
abbrev qaX0_commutator_1 : List Nat := [44, 182, 0, 69, 42, 42, 180, 0, 27, 42, 180, 0, 27, 182, 0, 73]
abbrev qaX0_commutator_2 : List Nat := [42, 43, 42, 180, 0, 27, 42, 180, 0, 30, 182, 0, 69, 177]
def qtX0_commutator_3 : List Nat := []
def qtX0_commutator_2 : List Nat := qaX0_commutator_2 ++ qtX0_commutator_3
def qtX0_commutator_1 : List Nat := qaX0_commutator_1 ++ qtX0_commutator_2
def qtX0_commutator_0 : List Nat := qaX0_commutator_0 ++ qtX0_commutator_1
theorem qeX0_commutator : cX0_commutator.data.toList.map UInt8.toNat = qtX0_commutator_0 := by decide +kernel
theorem qsX0_commutator_0 : ∀ i, dqNth qtX0_commutator_0 (0 + i) = dqNth qtX0_commutator_0 i := fun i => by rw [Nat.zero_add]
theorem qsX0_commutator_1 : ∀ i, dqNth qtX0_commutator_0 (16 + i) = dqNth qtX0_commutator_1 i := dq_step qsX0_commutator_0 rfl rfl
theorem qsX0_commutator_2 : ∀ i, dqNth qtX0_commutator_0 (32 + i) = dqNth qtX0_commutator_2 i := dq_step qsX0_commutator_1 rfl rfl
theorem qX0_commutator_0 (i b : Nat) (h : dqNth qaX0_commutator_0 i = some b) : DqBy cX0_commutator (0 + i) b := dqBy_of qeX0_commutator ((qsX0_commutator_0 i).trans (dq_in h))
theorem qX0_commutator_1 (i b : Nat) (h : dqNth qaX0_commutator_1 i = some b) : DqBy cX0_commutator (16 + i) b := dqBy_of qeX0_commutator ((qsX0_commutator_1 i).trans (dq_in h))
theorem qX0_commutator_2 (i b : Nat) (h : dqNth qaX0_commutator_2 i = some b) : DqBy cX0_commutator (32 + i) b := dqBy_of qeX0_commutator ((qsX0_commutator_2 i).trans (dq_in h))
theorem dX0_commutator_0 : decode cX0_commutator 0 = .ok (.aload_n 0, 1) := @dq_o42 cX0_commutator 0 (qX0_commutator_0 0 42 rfl)
theorem dX0_commutator_1 : decode cX0_commutator 1 = .ok (.aload_n 0, 1) := @dq_o42 cX0_commutator 1 (qX0_commutator_0 1 42 rfl)
theorem dX0_commutator_2 : decode cX0_commutator 2 = .ok (.getfield 30, 3) := @dq_o180 cX0_commutator 2 0 30 (qX0_commutator_0 2 180 rfl) (qX0_commutator_0 3 0 rfl) (qX0_commutator_0 4 30 rfl)
theorem dX0_commutator_5 : decode cX0_commutator 5 = .ok (.aload_n 2, 1) := @dq_o44 cX0_commutator 5 (qX0_commutator_0 5 44 rfl)
theorem dX0_commutator_6 : decode cX0_commutator 6 = .ok (.aload_n 3, 1) := @dq_o45 cX0_commutator 6 (qX0_commutator_0 6 45 rfl)
theorem dX0_commutator_7 : decode cX0_commutator 7 = .ok (.invokevirtual 69, 3) := @dq_o182 cX0_commutator 7 0 69 (qX0_commutator_0 7 182 rfl) (qX0_commutator_0 8 0 rfl) (qX0_commutator_0 9 69 rfl)
theorem dX0_commutator_10 : decode cX0_commutator 10 = .ok (.aload_n 0, 1) := @dq_o42 cX0_commutator 10 (qX0_commutator_0 10 42 rfl)
theorem dX0_commutator_11 : decode cX0_commutator 11 = .ok (.aload_n 0, 1) := @dq_o42 cX0_commutator 11 (qX0_commutator_0 11 42 rfl)
theorem dX0_commutator_12 : decode cX0_commutator 12 = .ok (.getfield 27, 3) := @dq_o180 cX0_commutator 12 0 27 (qX0_commutator_0 12 180 rfl) (qX0_commutator_0 13 0 rfl) (qX0_commutator_0 14 27 rfl)
theorem dX0_commutator_15 : decode cX0_commutator 15 = .ok (.aload_n 3, 1) := @dq_o45 cX0_commutator 15 (qX0_commutator_0 15 45 rfl)
theorem dX0_commutator_16 : decode cX0_commutator 16 = .ok (.aload_n 2, 1) := @dq_o44 cX0_commutator 16 (qX0_commutator_1 0 44 rfl)
theorem dX0_commutator_17 : decode cX0_commutator 17 = .ok (.invokevirtual 69, 3) := @dq_o182 cX0_commutator 17 0 69 (qX0_commutator_1 1 182 rfl) (qX0_commutator_1 2 0 rfl) (qX0_commutator_1 3 69 rfl)
theorem dX0_commutator_20 : decode cX0_commutator 20 = .ok (.aload_n 0, 1) := @dq_o42 cX0_commutator 20 (qX0_commutator_1 4 42 rfl)
theorem dX0_commutator_21 : decode cX0_commutator 21 = .ok (.aload_n 0, 1) := @dq_o42 cX0_commutator 21 (qX0_commutator_1 5 42 rfl)
theorem dX0_commutator_22 : decode cX0_commutator 22 = .ok (.getfield 27, 3) := @dq_o180 cX0_commutator 22 0 27 (qX0_commutator_1 6 180 rfl) (qX0_commutator_1 7 0 rfl) (qX0_commutator_1 8 27 rfl)
theorem dX0_commutator_25 : decode cX0_commutator 25 = .ok (.aload_n 0, 1) := @dq_o42 cX0_commutator 25 (qX0_commutator_1 9 42 rfl)
theorem dX0_commutator_26 : decode cX0_commutator 26 = .ok (.getfield 27, 3) := @dq_o180 cX0_commutator 26 0 27 (qX0_commutator_1 10 180 rfl) (qX0_commutator_1 11 0 rfl) (qX0_commutator_1 12 27 rfl)
theorem dX0_commutator_29 : decode cX0_commutator 29 = .ok (.invokevirtual 73, 3) := @dq_o182 cX0_commutator 29 0 73 (qX0_commutator_1 13 182 rfl) (qX0_commutator_1 14 0 rfl) (qX0_commutator_1 15 73 rfl)
theorem dX0_commutator_32 : decode cX0_commutator 32 = .ok (.aload_n 0, 1) := @dq_o42 cX0_commutator 32 (qX0_commutator_2 0 42 rfl)
theorem dX0_commutator_33 : decode cX0_commutator 33 = .ok (.aload_n 1, 1) := @dq_o43 cX0_commutator 33 (qX0_commutator_2 1 43 rfl)
theorem dX0_commutator_34 : decode cX0_commutator 34 = .ok (.aload_n 0, 1) := @dq_o42 cX0_commutator 34 (qX0_commutator_2 2 42 rfl)
theorem dX0_commutator_35 : decode cX0_commutator 35 = .ok (.getfield 27, 3) := @dq_o180 cX0_commutator 35 0 27 (qX0_commutator_2 3 180 rfl) (qX0_commutator_2 4 0 rfl) (qX0_commutator_2 5 27 rfl)
theorem dX0_commutator_38 : decode cX0_commutator 38 = .ok (.aload_n 0, 1) := @dq_o42 cX0_commutator 38 (qX0_commutator_2 6 42 rfl)
theorem dX0_commutator_39 : decode cX0_commutator 39 = .ok (.getfield 30, 3) := @dq_o180 cX0_commutator 39 0 30 (qX0_commutator_2 7 180 rfl) (qX0_commutator_2 8 0 rfl) (qX0_commutator_2 9 30 rfl)
theorem dX0_commutator_42 : decode cX0_commutator 42 = .ok (.invokevirtual 69, 3) := @dq_o182 cX0_commutator 42 0 69 (qX0_commutator_2 10 182 rfl) (qX0_commutator_2 11 0 rfl) (qX0_commutator_2 12 69 rfl)
theorem dX0_commutator_45 : decode cX0_commutator 45 = .ok (.return_, 1) := @dq_o177 cX0_commutator 45 (qX0_commutator_2 13 177 rfl)
abbrev qaX0_conjugated_0 : List Nat := [42, 42, 180, 0, 30, 44, 45, 182, 0, 69, 42, 42, 180, 0, 27, 45]
abbrev qaX0_conjugated_1 : List Nat := [182, 0, 73, 42, 43, 42, 180, 0, 27, 42, 180, 0, 30, 182, 0, 69]
abbrev qaX0_conjugated_2 : List Nat := [177]
def qtX0_conjugated_3 : List Nat := []
def qtX0_conjugated_2 : List Nat := qaX0_conjugated_2 ++ qtX0_conjugated_3
def qtX0_conjugated_1 : List Nat := qaX0_conjugated_1 ++ qtX0_conjugated_2
def qtX0_conjugated_0 : List Nat := qaX0_conjugated_0 ++ qtX0_conjugated_1
theorem qeX0_conjugated : cX0_conjugated.data.toList.map UInt8.toNat = qtX0_conjugated_0 := by decide +kernel
theorem qsX0_conjugated_0 : ∀ i, dqNth qtX0_conjugated_0 (0 + i) = dqNth qtX0_conjugated_0 i := fun i => by rw [Nat.zero_add]
theorem qsX0_conjugated_1 : ∀ i, dqNth qtX0_conjugated_0 (16 + i) = dqNth qtX0_conjugated_1 i := dq_step qsX0_conjugated_0 rfl rfl
theorem qsX0_conjugated_2 : ∀ i, dqNth qtX0_conjugated_0 (32 + i) = dqNth qtX0_conjugated_2 i := dq_step qsX0_conjugated_1 rfl rfl
theorem qX0_conjugated_0 (i b : Nat) (h : dqNth qaX0_conjugated_0 i = some b) : DqBy cX0_conjugated (0 + i) b := dqBy_of qeX0_conjugated ((qsX0_conjugated_0 i).trans (dq_in h))
theorem qX0_conjugated_1 (i b : Nat) (h : dqNth qaX0_conjugated_1 i = some b) : DqBy cX0_conjugated (16 + i) b := dqBy_of qeX0_conjugated ((qsX0_conjugated_1 i).trans (dq_in h))
theorem qX0_conjugated_2 (i b : Nat) (h : dqNth qaX0_conjugated_2 i = some b) : DqBy cX0_conjugated (32 + i) b := dqBy_of qeX0_conjugated ((qsX0_conjugated_2 i).trans (dq_in h))
theorem dX0_conjugated_0 : decode cX0_conjugated 0 = .ok (.aload_n 0, 1) := @dq_o42 cX0_conjugated 0 (qX0_conjugated_0 0 42 rfl)
theorem dX0_conjugated_1 : decode cX0_conjugated 1 = .ok (.aload_n 0, 1) := @dq_o42 cX0_conjugated 1 (qX0_conjugated_0 1 42 rfl)
theorem dX0_conjugated_2 : decode cX0_conjugated 2 = .ok (.getfield 30, 3) := @dq_o180 cX0_conjugated 2 0 30 (qX0_conjugated_0 2 180 rfl) (qX0_conjugated_0 3 0 rfl) (qX0_conjugated_0 4 30 rfl)
theorem dX0_conjugated_5 : decode cX0_conjugated 5 = .ok (.aload_n 2, 1) := @dq_o44 cX0_conjugated 5 (qX0_conjugated_0 5 44 rfl)
theorem dX0_conjugated_6 : decode cX0_conjugated 6 = .ok (.aload_n 3, 1) := @dq_o45 cX0_conjugated 6 (qX0_conjugated_0 6 45 rfl)
theorem dX0_conjugated_7 : decode cX0_conjugated 7 = .ok (.invokevirtual 69, 3) := @dq_o182 cX0_conjugated 7 0 69 (qX0_conjugated_0 7 182 rfl) (qX0_conjugated_0 8 0 rfl) (qX0_conjugated_0 9 69 rfl)
theorem dX0_conjugated_10 : decode cX0_conjugated 10 = .ok (.aload_n 0, 1) := @dq_o42 cX0_conjugated 10 (qX0_conjugated_0 10 42 rfl)
theorem dX0_conjugated_11 : decode cX0_conjugated 11 = .ok (.aload_n 0, 1) := @dq_o42 cX0_conjugated 11 (qX0_conjugated_0 11 42 rfl)
theorem dX0_conjugated_12 : decode cX0_conjugated 12 = .ok (.getfield 27, 3) := @dq_o180 cX0_conjugated 12 0 27 (qX0_conjugated_0 12 180 rfl) (qX0_conjugated_0 13 0 rfl) (qX0_conjugated_0 14 27 rfl)
theorem dX0_conjugated_15 : decode cX0_conjugated 15 = .ok (.aload_n 3, 1) := @dq_o45 cX0_conjugated 15 (qX0_conjugated_0 15 45 rfl)
theorem dX0_conjugated_16 : decode cX0_conjugated 16 = .ok (.invokevirtual 73, 3) := @dq_o182 cX0_conjugated 16 0 73 (qX0_conjugated_1 0 182 rfl) (qX0_conjugated_1 1 0 rfl) (qX0_conjugated_1 2 73 rfl)
theorem dX0_conjugated_19 : decode cX0_conjugated 19 = .ok (.aload_n 0, 1) := @dq_o42 cX0_conjugated 19 (qX0_conjugated_1 3 42 rfl)
theorem dX0_conjugated_20 : decode cX0_conjugated 20 = .ok (.aload_n 1, 1) := @dq_o43 cX0_conjugated 20 (qX0_conjugated_1 4 43 rfl)
theorem dX0_conjugated_21 : decode cX0_conjugated 21 = .ok (.aload_n 0, 1) := @dq_o42 cX0_conjugated 21 (qX0_conjugated_1 5 42 rfl)
theorem dX0_conjugated_22 : decode cX0_conjugated 22 = .ok (.getfield 27, 3) := @dq_o180 cX0_conjugated 22 0 27 (qX0_conjugated_1 6 180 rfl) (qX0_conjugated_1 7 0 rfl) (qX0_conjugated_1 8 27 rfl)
theorem dX0_conjugated_25 : decode cX0_conjugated 25 = .ok (.aload_n 0, 1) := @dq_o42 cX0_conjugated 25 (qX0_conjugated_1 9 42 rfl)
theorem dX0_conjugated_26 : decode cX0_conjugated 26 = .ok (.getfield 30, 3) := @dq_o180 cX0_conjugated 26 0 30 (qX0_conjugated_1 10 180 rfl) (qX0_conjugated_1 11 0 rfl) (qX0_conjugated_1 12 30 rfl)
theorem dX0_conjugated_29 : decode cX0_conjugated 29 = .ok (.invokevirtual 69, 3) := @dq_o182 cX0_conjugated 29 0 69 (qX0_conjugated_1 13 182 rfl) (qX0_conjugated_1 14 0 rfl) (qX0_conjugated_1 15 69 rfl)
theorem dX0_conjugated_32 : decode cX0_conjugated 32 = .ok (.return_, 1) := @dq_o177 cX0_conjugated 32 (qX0_conjugated_2 0 177 rfl)
abbrev qaX0_doCommute_0 : List Nat := [42, 42, 180, 0, 27, 43, 44, 182, 0, 69, 42, 42, 180, 0, 30, 44]
abbrev qaX0_doCommute_1 : List Nat := [43, 182, 0, 69, 42, 180, 0, 27, 42, 180, 0, 30, 184, 0, 77, 172]
def qtX0_doCommute_2 : List Nat := []
def qtX0_doCommute_1 : List Nat := qaX0_doCommute_1 ++ qtX0_doCommute_2
def qtX0_doCommute_0 : List Nat := qaX0_doCommute_0 ++ qtX0_doCommute_1
theorem qeX0_doCommute : cX0_doCommute.data.toList.map UInt8.toNat = qtX0_doCommute_0 := by decide +kernel
theorem qsX0_doCommute_0 : ∀ i, dqNth qtX0_doCommute_0 (0 + i) = dqNth qtX0_doCommute_0 i := fun i => by rw [Nat.zero_add]
theorem qsX0_doCommute_1 : ∀ i, dqNth qtX0_doCommute_0 (16 + i) = dqNth qtX0_doCommute_1 i := dq_step qsX0_doCommute_0 rfl rfl
theorem qX0_doCommute_0 (i b : Nat) (h : dqNth qaX0_doCommute_0 i = some b) : DqBy cX0_doCommute (0 + i) b := dqBy_of qeX0_doCommute ((qsX0_doCommute_0 i).trans (dq_in h))
theorem qX0_doCommute_1 (i b : Nat) (h : dqNth qaX0_doCommute_1 i = some b) : DqBy cX0_doCommute (16 + i) b := dqBy_of qeX0_doCommute ((qsX0_doCommute_1 i).trans (dq_in h))
theorem dX0_doCommute_0 : decode cX0_doCommute 0 = .ok (.aload_n 0, 1) := @dq_o42 cX0_doCommute 0 (qX0_doCommute_0 0 42 rfl)
theorem dX0_doCommute_1 : decode cX0_doCommute 1 = .ok (.aload_n 0, 1) := @dq_o42 cX0_doCommute 1 (qX0_doCommute_0 1 42 rfl)
theorem dX0_doCommute_2 : decode cX0_doCommute 2 = .ok (.getfield 27, 3) := @dq_o180 cX0_doCommute 2 0 27 (qX0_doCommute_0 2 180 rfl) (qX0_doCommute_0 3 0 rfl) (qX0_doCommute_0 4 27 rfl)
theorem dX0_doCommute_5 : decode cX0_doCommute 5 = .ok (.aload_n 1, 1) := @dq_o43 cX0_doCommute 5 (qX0_doCommute_0 5 43 rfl)
theorem dX0_doCommute_6 : decode cX0_doCommute 6 = .ok (.aload_n 2, 1) := @dq_o44 cX0_doCommute 6 (qX0_doCommute_0 6 44 rfl)
theorem dX0_doCommute_7 : decode cX0_doCommute 7 = .ok (.invokevirtual 69, 3) := @dq_o182 cX0_doCommute 7 0 69 (qX0_doCommute_0 7 182 rfl) (qX0_doCommute_0 8 0 rfl) (qX0_doCommute_0 9 69 rfl)
theorem dX0_doCommute_10 : decode cX0_doCommute 10 = .ok (.aload_n 0, 1) := @dq_o42 cX0_doCommute 10 (qX0_doCommute_0 10 42 rfl)
theorem dX0_doCommute_11 : decode cX0_doCommute 11 = .ok (.aload_n 0, 1) := @dq_o42 cX0_doCommute 11 (qX0_doCommute_0 11 42 rfl)
theorem dX0_doCommute_12 : decode cX0_doCommute 12 = .ok (.getfield 30, 3) := @dq_o180 cX0_doCommute 12 0 30 (qX0_doCommute_0 12 180 rfl) (qX0_doCommute_0 13 0 rfl) (qX0_doCommute_0 14 30 rfl)
theorem dX0_doCommute_15 : decode cX0_doCommute 15 = .ok (.aload_n 2, 1) := @dq_o44 cX0_doCommute 15 (qX0_doCommute_0 15 44 rfl)
theorem dX0_doCommute_16 : decode cX0_doCommute 16 = .ok (.aload_n 1, 1) := @dq_o43 cX0_doCommute 16 (qX0_doCommute_1 0 43 rfl)
theorem dX0_doCommute_17 : decode cX0_doCommute 17 = .ok (.invokevirtual 69, 3) := @dq_o182 cX0_doCommute 17 0 69 (qX0_doCommute_1 1 182 rfl) (qX0_doCommute_1 2 0 rfl) (qX0_doCommute_1 3 69 rfl)
theorem dX0_doCommute_20 : decode cX0_doCommute 20 = .ok (.aload_n 0, 1) := @dq_o42 cX0_doCommute 20 (qX0_doCommute_1 4 42 rfl)
theorem dX0_doCommute_21 : decode cX0_doCommute 21 = .ok (.getfield 27, 3) := @dq_o180 cX0_doCommute 21 0 27 (qX0_doCommute_1 5 180 rfl) (qX0_doCommute_1 6 0 rfl) (qX0_doCommute_1 7 27 rfl)
theorem dX0_doCommute_24 : decode cX0_doCommute 24 = .ok (.aload_n 0, 1) := @dq_o42 cX0_doCommute 24 (qX0_doCommute_1 8 42 rfl)
theorem dX0_doCommute_25 : decode cX0_doCommute 25 = .ok (.getfield 30, 3) := @dq_o180 cX0_doCommute 25 0 30 (qX0_doCommute_1 9 180 rfl) (qX0_doCommute_1 10 0 rfl) (qX0_doCommute_1 11 30 rfl)
theorem dX0_doCommute_28 : decode cX0_doCommute 28 = .ok (.invokestatic 77, 3) := @dq_o184 cX0_doCommute 28 0 77 (qX0_doCommute_1 12 184 rfl) (qX0_doCommute_1 13 0 rfl) (qX0_doCommute_1 14 77 rfl)
theorem dX0_doCommute_31 : decode cX0_doCommute 31 = .ok (.ireturn, 1) := @dq_o172 cX0_doCommute 31 (qX0_doCommute_1 15 172 rfl)
abbrev qaX0_findPowers_0 : List Nat := [43, 42, 180, 0, 18, 184, 0, 81, 42, 42, 180, 0, 21, 42, 180, 0]
abbrev qaX0_findPowers_1 : List Nat := [18, 42, 180, 0, 18, 182, 0, 69, 42, 42, 180, 0, 24, 42, 180, 0]
abbrev qaX0_findPowers_2 : List Nat := [21, 42, 180, 0, 18, 182, 0, 69, 177]
def qtX0_findPowers_3 : List Nat := []
def qtX0_findPowers_2 : List Nat := qaX0_findPowers_2 ++ qtX0_findPowers_3
def qtX0_findPowers_1 : List Nat := qaX0_findPowers_1 ++ qtX0_findPowers_2
def qtX0_findPowers_0 : List Nat := qaX0_findPowers_0 ++ qtX0_findPowers_1
theorem qeX0_findPowers : cX0_findPowers.data.toList.map UInt8.toNat = qtX0_findPowers_0 := by decide +kernel
theorem qsX0_findPowers_0 : ∀ i, dqNth qtX0_findPowers_0 (0 + i) = dqNth qtX0_findPowers_0 i := fun i => by rw [Nat.zero_add]
theorem qsX0_findPowers_1 : ∀ i, dqNth qtX0_findPowers_0 (16 + i) = dqNth qtX0_findPowers_1 i := dq_step qsX0_findPowers_0 rfl rfl
theorem qsX0_findPowers_2 : ∀ i, dqNth qtX0_findPowers_0 (32 + i) = dqNth qtX0_findPowers_2 i := dq_step qsX0_findPowers_1 rfl rfl
theorem qX0_findPowers_0 (i b : Nat) (h : dqNth qaX0_findPowers_0 i = some b) : DqBy cX0_findPowers (0 + i) b := dqBy_of qeX0_findPowers ((qsX0_findPowers_0 i).trans (dq_in h))
theorem qX0_findPowers_1 (i b : Nat) (h : dqNth qaX0_findPowers_1 i = some b) : DqBy cX0_findPowers (16 + i) b := dqBy_of qeX0_findPowers ((qsX0_findPowers_1 i).trans (dq_in h))
theorem qX0_findPowers_2 (i b : Nat) (h : dqNth qaX0_findPowers_2 i = some b) : DqBy cX0_findPowers (32 + i) b := dqBy_of qeX0_findPowers ((qsX0_findPowers_2 i).trans (dq_in h))
theorem dX0_findPowers_0 : decode cX0_findPowers 0 = .ok (.aload_n 1, 1) := @dq_o43 cX0_findPowers 0 (qX0_findPowers_0 0 43 rfl)
theorem dX0_findPowers_1 : decode cX0_findPowers 1 = .ok (.aload_n 0, 1) := @dq_o42 cX0_findPowers 1 (qX0_findPowers_0 1 42 rfl)
theorem dX0_findPowers_2 : decode cX0_findPowers 2 = .ok (.getfield 18, 3) := @dq_o180 cX0_findPowers 2 0 18 (qX0_findPowers_0 2 180 rfl) (qX0_findPowers_0 3 0 rfl) (qX0_findPowers_0 4 18 rfl)
theorem dX0_findPowers_5 : decode cX0_findPowers 5 = .ok (.invokestatic 81, 3) := @dq_o184 cX0_findPowers 5 0 81 (qX0_findPowers_0 5 184 rfl) (qX0_findPowers_0 6 0 rfl) (qX0_findPowers_0 7 81 rfl)
theorem dX0_findPowers_8 : decode cX0_findPowers 8 = .ok (.aload_n 0, 1) := @dq_o42 cX0_findPowers 8 (qX0_findPowers_0 8 42 rfl)
theorem dX0_findPowers_9 : decode cX0_findPowers 9 = .ok (.aload_n 0, 1) := @dq_o42 cX0_findPowers 9 (qX0_findPowers_0 9 42 rfl)
theorem dX0_findPowers_10 : decode cX0_findPowers 10 = .ok (.getfield 21, 3) := @dq_o180 cX0_findPowers 10 0 21 (qX0_findPowers_0 10 180 rfl) (qX0_findPowers_0 11 0 rfl) (qX0_findPowers_0 12 21 rfl)
theorem dX0_findPowers_13 : decode cX0_findPowers 13 = .ok (.aload_n 0, 1) := @dq_o42 cX0_findPowers 13 (qX0_findPowers_0 13 42 rfl)
theorem dX0_findPowers_14 : decode cX0_findPowers 14 = .ok (.getfield 18, 3) := @dq_o180 cX0_findPowers 14 0 18 (qX0_findPowers_0 14 180 rfl) (qX0_findPowers_0 15 0 rfl) (qX0_findPowers_1 0 18 rfl)
theorem dX0_findPowers_17 : decode cX0_findPowers 17 = .ok (.aload_n 0, 1) := @dq_o42 cX0_findPowers 17 (qX0_findPowers_1 1 42 rfl)
theorem dX0_findPowers_18 : decode cX0_findPowers 18 = .ok (.getfield 18, 3) := @dq_o180 cX0_findPowers 18 0 18 (qX0_findPowers_1 2 180 rfl) (qX0_findPowers_1 3 0 rfl) (qX0_findPowers_1 4 18 rfl)
theorem dX0_findPowers_21 : decode cX0_findPowers 21 = .ok (.invokevirtual 69, 3) := @dq_o182 cX0_findPowers 21 0 69 (qX0_findPowers_1 5 182 rfl) (qX0_findPowers_1 6 0 rfl) (qX0_findPowers_1 7 69 rfl)
theorem dX0_findPowers_24 : decode cX0_findPowers 24 = .ok (.aload_n 0, 1) := @dq_o42 cX0_findPowers 24 (qX0_findPowers_1 8 42 rfl)
theorem dX0_findPowers_25 : decode cX0_findPowers 25 = .ok (.aload_n 0, 1) := @dq_o42 cX0_findPowers 25 (qX0_findPowers_1 9 42 rfl)
theorem dX0_findPowers_26 : decode cX0_findPowers 26 = .ok (.getfield 24, 3) := @dq_o180 cX0_findPowers 26 0 24 (qX0_findPowers_1 10 180 rfl) (qX0_findPowers_1 11 0 rfl) (qX0_findPowers_1 12 24 rfl)
theorem dX0_findPowers_29 : decode cX0_findPowers 29 = .ok (.aload_n 0, 1) := @dq_o42 cX0_findPowers 29 (qX0_findPowers_1 13 42 rfl)
theorem dX0_findPowers_30 : decode cX0_findPowers 30 = .ok (.getfield 21, 3) := @dq_o180 cX0_findPowers 30 0 21 (qX0_findPowers_1 14 180 rfl) (qX0_findPowers_1 15 0 rfl) (qX0_findPowers_2 0 21 rfl)
theorem dX0_findPowers_33 : decode cX0_findPowers 33 = .ok (.aload_n 0, 1) := @dq_o42 cX0_findPowers 33 (qX0_findPowers_2 1 42 rfl)
theorem dX0_findPowers_34 : decode cX0_findPowers 34 = .ok (.getfield 18, 3) := @dq_o180 cX0_findPowers 34 0 18 (qX0_findPowers_2 2 180 rfl) (qX0_findPowers_2 3 0 rfl) (qX0_findPowers_2 4 18 rfl)
theorem dX0_findPowers_37 : decode cX0_findPowers 37 = .ok (.invokevirtual 69, 3) := @dq_o182 cX0_findPowers 37 0 69 (qX0_findPowers_2 5 182 rfl) (qX0_findPowers_2 6 0 rfl) (qX0_findPowers_2 7 69 rfl)
theorem dX0_findPowers_40 : decode cX0_findPowers 40 = .ok (.return_, 1) := @dq_o177 cX0_findPowers 40 (qX0_findPowers_2 8 177 rfl)
abbrev qaX0_powerNumber_0 : List Nat := [27, 155, 0, 9, 27, 16, 6, 161, 0, 5, 9, 173, 28, 170, 0, 0]
abbrev qaX0_powerNumber_1 : List Nat := [0, 0, 0, 81, 0, 0, 0, 1, 0, 0, 0, 3, 0, 0, 0, 27]
abbrev qaX0_powerNumber_2 : List Nat := [0, 0, 0, 34, 0, 0, 0, 52, 42, 180, 0, 18, 27, 47, 173, 42]
abbrev qaX0_powerNumber_3 : List Nat := [180, 0, 21, 27, 47, 20, 0, 84, 42, 180, 0, 18, 27, 47, 105, 101]
abbrev qaX0_powerNumber_4 : List Nat := [173, 42, 180, 0, 24, 27, 47, 20, 0, 86, 42, 180, 0, 21, 27, 47]
abbrev qaX0_powerNumber_5 : List Nat := [105, 101, 20, 0, 86, 42, 180, 0, 18, 27, 47, 105, 97, 173, 9, 173]
def qtX0_powerNumber_6 : List Nat := []
def qtX0_powerNumber_5 : List Nat := qaX0_powerNumber_5 ++ qtX0_powerNumber_6
def qtX0_powerNumber_4 : List Nat := qaX0_powerNumber_4 ++ qtX0_powerNumber_5
def qtX0_powerNumber_3 : List Nat := qaX0_powerNumber_3 ++ qtX0_powerNumber_4
def qtX0_powerNumber_2 : List Nat := qaX0_powerNumber_2 ++ qtX0_powerNumber_3
def qtX0_powerNumber_1 : List Nat := qaX0_powerNumber_1 ++ qtX0_powerNumber_2
def qtX0_powerNumber_0 : List Nat := qaX0_powerNumber_0 ++ qtX0_powerNumber_1
theorem qeX0_powerNumber : cX0_powerNumber.data.toList.map UInt8.toNat = qtX0_powerNumber_0 := by decide +kernel
theorem qsX0_powerNumber_0 : ∀ i, dqNth qtX0_powerNumber_0 (0 + i) = dqNth qtX0_powerNumber_0 i := fun i => by rw [Nat.zero_add]
theorem qsX0_powerNumber_1 : ∀ i, dqNth qtX0_powerNumber_0 (16 + i) = dqNth qtX0_powerNumber_1 i := dq_step qsX0_powerNumber_0 rfl rfl
theorem qsX0_powerNumber_2 : ∀ i, dqNth qtX0_powerNumber_0 (32 + i) = dqNth qtX0_powerNumber_2 i := dq_step qsX0_powerNumber_1 rfl rfl
theorem qsX0_powerNumber_3 : ∀ i, dqNth qtX0_powerNumber_0 (48 + i) = dqNth qtX0_powerNumber_3 i := dq_step qsX0_powerNumber_2 rfl rfl
theorem qsX0_powerNumber_4 : ∀ i, dqNth qtX0_powerNumber_0 (64 + i) = dqNth qtX0_powerNumber_4 i := dq_step qsX0_powerNumber_3 rfl rfl
theorem qsX0_powerNumber_5 : ∀ i, dqNth qtX0_powerNumber_0 (80 + i) = dqNth qtX0_powerNumber_5 i := dq_step qsX0_powerNumber_4 rfl rfl
theorem qX0_powerNumber_0 (i b : Nat) (h : dqNth qaX0_powerNumber_0 i = some b) : DqBy cX0_powerNumber (0 + i) b := dqBy_of qeX0_powerNumber ((qsX0_powerNumber_0 i).trans (dq_in h))
theorem qX0_powerNumber_1 (i b : Nat) (h : dqNth qaX0_powerNumber_1 i = some b) : DqBy cX0_powerNumber (16 + i) b := dqBy_of qeX0_powerNumber ((qsX0_powerNumber_1 i).trans (dq_in h))
theorem qX0_powerNumber_2 (i b : Nat) (h : dqNth qaX0_powerNumber_2 i = some b) : DqBy cX0_powerNumber (32 + i) b := dqBy_of qeX0_powerNumber ((qsX0_powerNumber_2 i).trans (dq_in h))
theorem qX0_powerNumber_3 (i b : Nat) (h : dqNth qaX0_powerNumber_3 i = some b) : DqBy cX0_powerNumber (48 + i) b := dqBy_of qeX0_powerNumber ((qsX0_powerNumber_3 i).trans (dq_in h))
theorem qX0_powerNumber_4 (i b : Nat) (h : dqNth qaX0_powerNumber_4 i = some b) : DqBy cX0_powerNumber (64 + i) b := dqBy_of qeX0_powerNumber ((qsX0_powerNumber_4 i).trans (dq_in h))
theorem qX0_powerNumber_5 (i b : Nat) (h : dqNth qaX0_powerNumber_5 i = some b) : DqBy cX0_powerNumber (80 + i) b := dqBy_of qeX0_powerNumber ((qsX0_powerNumber_5 i).trans (dq_in h))
theorem dX0_powerNumber_0 : decode cX0_powerNumber 0 = .ok (.iload_n 1, 1) := @dq_o27 cX0_powerNumber 0 (qX0_powerNumber_0 0 27 rfl)
theorem dX0_powerNumber_1 : decode cX0_powerNumber 1 = .ok (.ifCond .lt 9, 3) := @dq_o155 cX0_powerNumber 1 0 9 (qX0_powerNumber_0 1 155 rfl) (qX0_powerNumber_0 2 0 rfl) (qX0_powerNumber_0 3 9 rfl)
theorem dX0_powerNumber_4 : decode cX0_powerNumber 4 = .ok (.iload_n 1, 1) := @dq_o27 cX0_powerNumber 4 (qX0_powerNumber_0 4 27 rfl)
theorem dX0_powerNumber_5 : decode cX0_powerNumber 5 = .ok (.bipush 6, 2) := @dq_o16 cX0_powerNumber 5 6 (qX0_powerNumber_0 5 16 rfl) (qX0_powerNumber_0 6 6 rfl)
theorem dX0_powerNumber_7 : decode cX0_powerNumber 7 = .ok (.if_icmp .lt 5, 3) := @dq_o161 cX0_powerNumber 7 0 5 (qX0_powerNumber_0 7 161 rfl) (qX0_powerNumber_0 8 0 rfl) (qX0_powerNumber_0 9 5 rfl)
theorem dX0_powerNumber_10 : decode cX0_powerNumber 10 = .ok (.lconst 0, 1) := @dq_o9 cX0_powerNumber 10 (qX0_powerNumber_0 10 9 rfl)
theorem dX0_powerNumber_11 : decode cX0_powerNumber 11 = .ok (.lreturn, 1) := @dq_o173 cX0_powerNumber 11 (qX0_powerNumber_0 11 173 rfl)
theorem dX0_powerNumber_12 : decode cX0_powerNumber 12 = .ok (.iload_n 2, 1) := @dq_o28 cX0_powerNumber 12 (qX0_powerNumber_0 12 28 rfl)
theorem dX0_powerNumber_13 : decode cX0_powerNumber 13 = .ok (.tableswitch 81 1 3 #[27, 34, 52], 27) := by decide +kernel
theorem dX0_powerNumber_40 : decode cX0_powerNumber 40 = .ok (.aload_n 0, 1) := @dq_o42 cX0_powerNumber 40 (qX0_powerNumber_2 8 42 rfl)
theorem dX0_powerNumber_41 : decode cX0_powerNumber 41 = .ok (.getfield 18, 3) := @dq_o180 cX0_powerNumber 41 0 18 (qX0_powerNumber_2 9 180 rfl) (qX0_powerNumber_2 10 0 rfl) (qX0_powerNumber_2 11 18 rfl)
theorem dX0_powerNumber_44 : decode cX0_powerNumber 44 = .ok (.iload_n 1, 1) := @dq_o27 cX0_powerNumber 44 (qX0_powerNumber_2 12 27 rfl)
theorem dX0_powerNumber_45 : decode cX0_powerNumber 45 = .ok (.laload, 1) := @dq_o47 cX0_powerNumber 45 (qX0_powerNumber_2 13 47 rfl)
theorem dX0_powerNumber_46 : decode cX0_powerNumber 46 = .ok (.lreturn, 1) := @dq_o173 cX0_powerNumber 46 (qX0_powerNumber_2 14 173 rfl)
theorem dX0_powerNumber_47 : decode cX0_powerNumber 47 = .ok (.aload_n 0, 1) := @dq_o42 cX0_powerNumber 47 (qX0_powerNumber_2 15 42 rfl)
theorem dX0_powerNumber_48 : decode cX0_powerNumber 48 = .ok (.getfield 21, 3) := @dq_o180 cX0_powerNumber 48 0 21 (qX0_powerNumber_3 0 180 rfl) (qX0_powerNumber_3 1 0 rfl) (qX0_powerNumber_3 2 21 rfl)
theorem dX0_powerNumber_51 : decode cX0_powerNumber 51 = .ok (.iload_n 1, 1) := @dq_o27 cX0_powerNumber 51 (qX0_powerNumber_3 3 27 rfl)
theorem dX0_powerNumber_52 : decode cX0_powerNumber 52 = .ok (.laload, 1) := @dq_o47 cX0_powerNumber 52 (qX0_powerNumber_3 4 47 rfl)
theorem dX0_powerNumber_53 : decode cX0_powerNumber 53 = .ok (.ldc2_w 84, 3) := @dq_o20 cX0_powerNumber 53 0 84 (qX0_powerNumber_3 5 20 rfl) (qX0_powerNumber_3 6 0 rfl) (qX0_powerNumber_3 7 84 rfl)
theorem dX0_powerNumber_56 : decode cX0_powerNumber 56 = .ok (.aload_n 0, 1) := @dq_o42 cX0_powerNumber 56 (qX0_powerNumber_3 8 42 rfl)
theorem dX0_powerNumber_57 : decode cX0_powerNumber 57 = .ok (.getfield 18, 3) := @dq_o180 cX0_powerNumber 57 0 18 (qX0_powerNumber_3 9 180 rfl) (qX0_powerNumber_3 10 0 rfl) (qX0_powerNumber_3 11 18 rfl)
theorem dX0_powerNumber_60 : decode cX0_powerNumber 60 = .ok (.iload_n 1, 1) := @dq_o27 cX0_powerNumber 60 (qX0_powerNumber_3 12 27 rfl)
theorem dX0_powerNumber_61 : decode cX0_powerNumber 61 = .ok (.laload, 1) := @dq_o47 cX0_powerNumber 61 (qX0_powerNumber_3 13 47 rfl)
theorem dX0_powerNumber_62 : decode cX0_powerNumber 62 = .ok (.lmul, 1) := @dq_o105 cX0_powerNumber 62 (qX0_powerNumber_3 14 105 rfl)
theorem dX0_powerNumber_63 : decode cX0_powerNumber 63 = .ok (.lsub, 1) := @dq_o101 cX0_powerNumber 63 (qX0_powerNumber_3 15 101 rfl)
theorem dX0_powerNumber_64 : decode cX0_powerNumber 64 = .ok (.lreturn, 1) := @dq_o173 cX0_powerNumber 64 (qX0_powerNumber_4 0 173 rfl)
theorem dX0_powerNumber_65 : decode cX0_powerNumber 65 = .ok (.aload_n 0, 1) := @dq_o42 cX0_powerNumber 65 (qX0_powerNumber_4 1 42 rfl)
theorem dX0_powerNumber_66 : decode cX0_powerNumber 66 = .ok (.getfield 24, 3) := @dq_o180 cX0_powerNumber 66 0 24 (qX0_powerNumber_4 2 180 rfl) (qX0_powerNumber_4 3 0 rfl) (qX0_powerNumber_4 4 24 rfl)
theorem dX0_powerNumber_69 : decode cX0_powerNumber 69 = .ok (.iload_n 1, 1) := @dq_o27 cX0_powerNumber 69 (qX0_powerNumber_4 5 27 rfl)
theorem dX0_powerNumber_70 : decode cX0_powerNumber 70 = .ok (.laload, 1) := @dq_o47 cX0_powerNumber 70 (qX0_powerNumber_4 6 47 rfl)
theorem dX0_powerNumber_71 : decode cX0_powerNumber 71 = .ok (.ldc2_w 86, 3) := @dq_o20 cX0_powerNumber 71 0 86 (qX0_powerNumber_4 7 20 rfl) (qX0_powerNumber_4 8 0 rfl) (qX0_powerNumber_4 9 86 rfl)
theorem dX0_powerNumber_74 : decode cX0_powerNumber 74 = .ok (.aload_n 0, 1) := @dq_o42 cX0_powerNumber 74 (qX0_powerNumber_4 10 42 rfl)
theorem dX0_powerNumber_75 : decode cX0_powerNumber 75 = .ok (.getfield 21, 3) := @dq_o180 cX0_powerNumber 75 0 21 (qX0_powerNumber_4 11 180 rfl) (qX0_powerNumber_4 12 0 rfl) (qX0_powerNumber_4 13 21 rfl)
theorem dX0_powerNumber_78 : decode cX0_powerNumber 78 = .ok (.iload_n 1, 1) := @dq_o27 cX0_powerNumber 78 (qX0_powerNumber_4 14 27 rfl)
theorem dX0_powerNumber_79 : decode cX0_powerNumber 79 = .ok (.laload, 1) := @dq_o47 cX0_powerNumber 79 (qX0_powerNumber_4 15 47 rfl)
theorem dX0_powerNumber_80 : decode cX0_powerNumber 80 = .ok (.lmul, 1) := @dq_o105 cX0_powerNumber 80 (qX0_powerNumber_5 0 105 rfl)
theorem dX0_powerNumber_81 : decode cX0_powerNumber 81 = .ok (.lsub, 1) := @dq_o101 cX0_powerNumber 81 (qX0_powerNumber_5 1 101 rfl)
theorem dX0_powerNumber_82 : decode cX0_powerNumber 82 = .ok (.ldc2_w 86, 3) := @dq_o20 cX0_powerNumber 82 0 86 (qX0_powerNumber_5 2 20 rfl) (qX0_powerNumber_5 3 0 rfl) (qX0_powerNumber_5 4 86 rfl)
theorem dX0_powerNumber_85 : decode cX0_powerNumber 85 = .ok (.aload_n 0, 1) := @dq_o42 cX0_powerNumber 85 (qX0_powerNumber_5 5 42 rfl)
theorem dX0_powerNumber_86 : decode cX0_powerNumber 86 = .ok (.getfield 18, 3) := @dq_o180 cX0_powerNumber 86 0 18 (qX0_powerNumber_5 6 180 rfl) (qX0_powerNumber_5 7 0 rfl) (qX0_powerNumber_5 8 18 rfl)
theorem dX0_powerNumber_89 : decode cX0_powerNumber 89 = .ok (.iload_n 1, 1) := @dq_o27 cX0_powerNumber 89 (qX0_powerNumber_5 9 27 rfl)
theorem dX0_powerNumber_90 : decode cX0_powerNumber 90 = .ok (.laload, 1) := @dq_o47 cX0_powerNumber 90 (qX0_powerNumber_5 10 47 rfl)
theorem dX0_powerNumber_91 : decode cX0_powerNumber 91 = .ok (.lmul, 1) := @dq_o105 cX0_powerNumber 91 (qX0_powerNumber_5 11 105 rfl)
theorem dX0_powerNumber_92 : decode cX0_powerNumber 92 = .ok (.ladd, 1) := @dq_o97 cX0_powerNumber 92 (qX0_powerNumber_5 12 97 rfl)
theorem dX0_powerNumber_93 : decode cX0_powerNumber 93 = .ok (.lreturn, 1) := @dq_o173 cX0_powerNumber 93 (qX0_powerNumber_5 13 173 rfl)
theorem dX0_powerNumber_94 : decode cX0_powerNumber 94 = .ok (.lconst 0, 1) := @dq_o9 cX0_powerNumber 94 (qX0_powerNumber_5 14 9 rfl)
theorem dX0_powerNumber_95 : decode cX0_powerNumber 95 = .ok (.lreturn, 1) := @dq_o173 cX0_powerNumber 95 (qX0_powerNumber_5 15 173 rfl)
abbrev qaX0_raise_0 : List Nat := [42, 44, 182, 0, 88, 3, 54, 5, 21, 5, 16, 6, 162, 0, 20, 43]
abbrev qaX0_raise_1 : List Nat := [21, 5, 42, 21, 5, 33, 182, 0, 92, 80, 132, 5, 1, 167, 255, 235]
abbrev qaX0_raise_2 : List Nat := [177]
def qtX0_raise_3 : List Nat := []
def qtX0_raise_2 : List Nat := qaX0_raise_2 ++ qtX0_raise_3
def qtX0_raise_1 : List Nat := qaX0_raise_1 ++ qtX0_raise_2
def qtX0_raise_0 : List Nat := qaX0_raise_0 ++ qtX0_raise_1
theorem qeX0_raise : cX0_raise.data.toList.map UInt8.toNat = qtX0_raise_0 := by decide +kernel
theorem qsX0_raise_0 : ∀ i, dqNth qtX0_raise_0 (0 + i) = dqNth qtX0_raise_0 i := fun i => by rw [Nat.zero_add]
theorem qsX0_raise_1 : ∀ i, dqNth qtX0_raise_0 (16 + i) = dqNth qtX0_raise_1 i := dq_step qsX0_raise_0 rfl rfl
theorem qsX0_raise_2 : ∀ i, dqNth qtX0_raise_0 (32 + i) = dqNth qtX0_raise_2 i := dq_step qsX0_raise_1 rfl rfl
theorem qX0_raise_0 (i b : Nat) (h : dqNth qaX0_raise_0 i = some b) : DqBy cX0_raise (0 + i) b := dqBy_of qeX0_raise ((qsX0_raise_0 i).trans (dq_in h))
theorem qX0_raise_1 (i b : Nat) (h : dqNth qaX0_raise_1 i = some b) : DqBy cX0_raise (16 + i) b := dqBy_of qeX0_raise ((qsX0_raise_1 i).trans (dq_in h))
theorem qX0_raise_2 (i b : Nat) (h : dqNth qaX0_raise_2 i = some b) : DqBy cX0_raise (32 + i) b := dqBy_of qeX0_raise ((qsX0_raise_2 i).trans (dq_in h))
theorem dX0_raise_0 : decode cX0_raise 0 = .ok (.aload_n 0, 1) := @dq_o42 cX0_raise 0 (qX0_raise_0 0 42 rfl)
theorem dX0_raise_1 : decode cX0_raise 1 = .ok (.aload_n 2, 1) := @dq_o44 cX0_raise 1 (qX0_raise_0 1 44 rfl)
theorem dX0_raise_2 : decode cX0_raise 2 = .ok (.invokevirtual 88, 3) := @dq_o182 cX0_raise 2 0 88 (qX0_raise_0 2 182 rfl) (qX0_raise_0 3 0 rfl) (qX0_raise_0 4 88 rfl)
theorem dX0_raise_5 : decode cX0_raise 5 = .ok (.iconst 0, 1) := @dq_o3 cX0_raise 5 (qX0_raise_0 5 3 rfl)
theorem dX0_raise_6 : decode cX0_raise 6 = .ok (.istore 5, 2) := @dq_o54 cX0_raise 6 5 (qX0_raise_0 6 54 rfl) (qX0_raise_0 7 5 rfl)
theorem dX0_raise_8 : decode cX0_raise 8 = .ok (.iload 5, 2) := @dq_o21 cX0_raise 8 5 (qX0_raise_0 8 21 rfl) (qX0_raise_0 9 5 rfl)
theorem dX0_raise_10 : decode cX0_raise 10 = .ok (.bipush 6, 2) := @dq_o16 cX0_raise 10 6 (qX0_raise_0 10 16 rfl) (qX0_raise_0 11 6 rfl)
theorem dX0_raise_12 : decode cX0_raise 12 = .ok (.if_icmp .ge 20, 3) := @dq_o162 cX0_raise 12 0 20 (qX0_raise_0 12 162 rfl) (qX0_raise_0 13 0 rfl) (qX0_raise_0 14 20 rfl)
theorem dX0_raise_15 : decode cX0_raise 15 = .ok (.aload_n 1, 1) := @dq_o43 cX0_raise 15 (qX0_raise_0 15 43 rfl)
theorem dX0_raise_16 : decode cX0_raise 16 = .ok (.iload 5, 2) := @dq_o21 cX0_raise 16 5 (qX0_raise_1 0 21 rfl) (qX0_raise_1 1 5 rfl)
theorem dX0_raise_18 : decode cX0_raise 18 = .ok (.aload_n 0, 1) := @dq_o42 cX0_raise 18 (qX0_raise_1 2 42 rfl)
theorem dX0_raise_19 : decode cX0_raise 19 = .ok (.iload 5, 2) := @dq_o21 cX0_raise 19 5 (qX0_raise_1 3 21 rfl) (qX0_raise_1 4 5 rfl)
theorem dX0_raise_21 : decode cX0_raise 21 = .ok (.lload_n 3, 1) := @dq_o33 cX0_raise 21 (qX0_raise_1 5 33 rfl)
theorem dX0_raise_22 : decode cX0_raise 22 = .ok (.invokevirtual 92, 3) := @dq_o182 cX0_raise 22 0 92 (qX0_raise_1 6 182 rfl) (qX0_raise_1 7 0 rfl) (qX0_raise_1 8 92 rfl)
theorem dX0_raise_25 : decode cX0_raise 25 = .ok (.lastore, 1) := @dq_o80 cX0_raise 25 (qX0_raise_1 9 80 rfl)
theorem dX0_raise_26 : decode cX0_raise 26 = .ok (.iinc 5 1, 3) := @dq_o132 cX0_raise 26 5 1 (qX0_raise_1 10 132 rfl) (qX0_raise_1 11 5 rfl) (qX0_raise_1 12 1 rfl)
theorem dX0_raise_29 : decode cX0_raise 29 = .ok (.goto (-21), 3) := @dq_o167 cX0_raise 29 255 235 (qX0_raise_1 13 167 rfl) (qX0_raise_1 14 255 rfl) (qX0_raise_1 15 235 rfl)
theorem dX0_raise_32 : decode cX0_raise 32 = .ok (.return_, 1) := @dq_o177 cX0_raise 32 (qX0_raise_2 0 177 rfl)
abbrev qaX0_powerAt_0 : List Nat := [42, 27, 4, 182, 0, 96, 32, 105, 42, 27, 5, 182, 0, 96, 32, 32]
abbrev qaX0_powerAt_1 : List Nat := [10, 101, 105, 20, 0, 84, 109, 105, 97, 42, 27, 6, 182, 0, 96, 32]
abbrev qaX0_powerAt_2 : List Nat := [32, 10, 101, 105, 32, 20, 0, 84, 101, 105, 20, 0, 100, 109, 105, 97]
abbrev qaX0_powerAt_3 : List Nat := [173]
def qtX0_powerAt_4 : List Nat := []
def qtX0_powerAt_3 : List Nat := qaX0_powerAt_3 ++ qtX0_powerAt_4
def qtX0_powerAt_2 : List Nat := qaX0_powerAt_2 ++ qtX0_powerAt_3
def qtX0_powerAt_1 : List Nat := qaX0_powerAt_1 ++ qtX0_powerAt_2
def qtX0_powerAt_0 : List Nat := qaX0_powerAt_0 ++ qtX0_powerAt_1
theorem qeX0_powerAt : cX0_powerAt.data.toList.map UInt8.toNat = qtX0_powerAt_0 := by decide +kernel
theorem qsX0_powerAt_0 : ∀ i, dqNth qtX0_powerAt_0 (0 + i) = dqNth qtX0_powerAt_0 i := fun i => by rw [Nat.zero_add]
theorem qsX0_powerAt_1 : ∀ i, dqNth qtX0_powerAt_0 (16 + i) = dqNth qtX0_powerAt_1 i := dq_step qsX0_powerAt_0 rfl rfl
theorem qsX0_powerAt_2 : ∀ i, dqNth qtX0_powerAt_0 (32 + i) = dqNth qtX0_powerAt_2 i := dq_step qsX0_powerAt_1 rfl rfl
theorem qsX0_powerAt_3 : ∀ i, dqNth qtX0_powerAt_0 (48 + i) = dqNth qtX0_powerAt_3 i := dq_step qsX0_powerAt_2 rfl rfl
theorem qX0_powerAt_0 (i b : Nat) (h : dqNth qaX0_powerAt_0 i = some b) : DqBy cX0_powerAt (0 + i) b := dqBy_of qeX0_powerAt ((qsX0_powerAt_0 i).trans (dq_in h))
theorem qX0_powerAt_1 (i b : Nat) (h : dqNth qaX0_powerAt_1 i = some b) : DqBy cX0_powerAt (16 + i) b := dqBy_of qeX0_powerAt ((qsX0_powerAt_1 i).trans (dq_in h))
theorem qX0_powerAt_2 (i b : Nat) (h : dqNth qaX0_powerAt_2 i = some b) : DqBy cX0_powerAt (32 + i) b := dqBy_of qeX0_powerAt ((qsX0_powerAt_2 i).trans (dq_in h))
theorem qX0_powerAt_3 (i b : Nat) (h : dqNth qaX0_powerAt_3 i = some b) : DqBy cX0_powerAt (48 + i) b := dqBy_of qeX0_powerAt ((qsX0_powerAt_3 i).trans (dq_in h))
theorem dX0_powerAt_0 : decode cX0_powerAt 0 = .ok (.aload_n 0, 1) := @dq_o42 cX0_powerAt 0 (qX0_powerAt_0 0 42 rfl)
theorem dX0_powerAt_1 : decode cX0_powerAt 1 = .ok (.iload_n 1, 1) := @dq_o27 cX0_powerAt 1 (qX0_powerAt_0 1 27 rfl)
theorem dX0_powerAt_2 : decode cX0_powerAt 2 = .ok (.iconst 1, 1) := @dq_o4 cX0_powerAt 2 (qX0_powerAt_0 2 4 rfl)
theorem dX0_powerAt_3 : decode cX0_powerAt 3 = .ok (.invokevirtual 96, 3) := @dq_o182 cX0_powerAt 3 0 96 (qX0_powerAt_0 3 182 rfl) (qX0_powerAt_0 4 0 rfl) (qX0_powerAt_0 5 96 rfl)
theorem dX0_powerAt_6 : decode cX0_powerAt 6 = .ok (.lload_n 2, 1) := @dq_o32 cX0_powerAt 6 (qX0_powerAt_0 6 32 rfl)
theorem dX0_powerAt_7 : decode cX0_powerAt 7 = .ok (.lmul, 1) := @dq_o105 cX0_powerAt 7 (qX0_powerAt_0 7 105 rfl)
theorem dX0_powerAt_8 : decode cX0_powerAt 8 = .ok (.aload_n 0, 1) := @dq_o42 cX0_powerAt 8 (qX0_powerAt_0 8 42 rfl)
theorem dX0_powerAt_9 : decode cX0_powerAt 9 = .ok (.iload_n 1, 1) := @dq_o27 cX0_powerAt 9 (qX0_powerAt_0 9 27 rfl)
theorem dX0_powerAt_10 : decode cX0_powerAt 10 = .ok (.iconst 2, 1) := @dq_o5 cX0_powerAt 10 (qX0_powerAt_0 10 5 rfl)
theorem dX0_powerAt_11 : decode cX0_powerAt 11 = .ok (.invokevirtual 96, 3) := @dq_o182 cX0_powerAt 11 0 96 (qX0_powerAt_0 11 182 rfl) (qX0_powerAt_0 12 0 rfl) (qX0_powerAt_0 13 96 rfl)
theorem dX0_powerAt_14 : decode cX0_powerAt 14 = .ok (.lload_n 2, 1) := @dq_o32 cX0_powerAt 14 (qX0_powerAt_0 14 32 rfl)
theorem dX0_powerAt_15 : decode cX0_powerAt 15 = .ok (.lload_n 2, 1) := @dq_o32 cX0_powerAt 15 (qX0_powerAt_0 15 32 rfl)
theorem dX0_powerAt_16 : decode cX0_powerAt 16 = .ok (.lconst 1, 1) := @dq_o10 cX0_powerAt 16 (qX0_powerAt_1 0 10 rfl)
theorem dX0_powerAt_17 : decode cX0_powerAt 17 = .ok (.lsub, 1) := @dq_o101 cX0_powerAt 17 (qX0_powerAt_1 1 101 rfl)
theorem dX0_powerAt_18 : decode cX0_powerAt 18 = .ok (.lmul, 1) := @dq_o105 cX0_powerAt 18 (qX0_powerAt_1 2 105 rfl)
theorem dX0_powerAt_19 : decode cX0_powerAt 19 = .ok (.ldc2_w 84, 3) := @dq_o20 cX0_powerAt 19 0 84 (qX0_powerAt_1 3 20 rfl) (qX0_powerAt_1 4 0 rfl) (qX0_powerAt_1 5 84 rfl)
theorem dX0_powerAt_22 : decode cX0_powerAt 22 = .ok (.ldiv, 1) := @dq_o109 cX0_powerAt 22 (qX0_powerAt_1 6 109 rfl)
theorem dX0_powerAt_23 : decode cX0_powerAt 23 = .ok (.lmul, 1) := @dq_o105 cX0_powerAt 23 (qX0_powerAt_1 7 105 rfl)
theorem dX0_powerAt_24 : decode cX0_powerAt 24 = .ok (.ladd, 1) := @dq_o97 cX0_powerAt 24 (qX0_powerAt_1 8 97 rfl)
theorem dX0_powerAt_25 : decode cX0_powerAt 25 = .ok (.aload_n 0, 1) := @dq_o42 cX0_powerAt 25 (qX0_powerAt_1 9 42 rfl)
theorem dX0_powerAt_26 : decode cX0_powerAt 26 = .ok (.iload_n 1, 1) := @dq_o27 cX0_powerAt 26 (qX0_powerAt_1 10 27 rfl)
theorem dX0_powerAt_27 : decode cX0_powerAt 27 = .ok (.iconst 3, 1) := @dq_o6 cX0_powerAt 27 (qX0_powerAt_1 11 6 rfl)
theorem dX0_powerAt_28 : decode cX0_powerAt 28 = .ok (.invokevirtual 96, 3) := @dq_o182 cX0_powerAt 28 0 96 (qX0_powerAt_1 12 182 rfl) (qX0_powerAt_1 13 0 rfl) (qX0_powerAt_1 14 96 rfl)
theorem dX0_powerAt_31 : decode cX0_powerAt 31 = .ok (.lload_n 2, 1) := @dq_o32 cX0_powerAt 31 (qX0_powerAt_1 15 32 rfl)
theorem dX0_powerAt_32 : decode cX0_powerAt 32 = .ok (.lload_n 2, 1) := @dq_o32 cX0_powerAt 32 (qX0_powerAt_2 0 32 rfl)
theorem dX0_powerAt_33 : decode cX0_powerAt 33 = .ok (.lconst 1, 1) := @dq_o10 cX0_powerAt 33 (qX0_powerAt_2 1 10 rfl)
theorem dX0_powerAt_34 : decode cX0_powerAt 34 = .ok (.lsub, 1) := @dq_o101 cX0_powerAt 34 (qX0_powerAt_2 2 101 rfl)
theorem dX0_powerAt_35 : decode cX0_powerAt 35 = .ok (.lmul, 1) := @dq_o105 cX0_powerAt 35 (qX0_powerAt_2 3 105 rfl)
theorem dX0_powerAt_36 : decode cX0_powerAt 36 = .ok (.lload_n 2, 1) := @dq_o32 cX0_powerAt 36 (qX0_powerAt_2 4 32 rfl)
theorem dX0_powerAt_37 : decode cX0_powerAt 37 = .ok (.ldc2_w 84, 3) := @dq_o20 cX0_powerAt 37 0 84 (qX0_powerAt_2 5 20 rfl) (qX0_powerAt_2 6 0 rfl) (qX0_powerAt_2 7 84 rfl)
theorem dX0_powerAt_40 : decode cX0_powerAt 40 = .ok (.lsub, 1) := @dq_o101 cX0_powerAt 40 (qX0_powerAt_2 8 101 rfl)
theorem dX0_powerAt_41 : decode cX0_powerAt 41 = .ok (.lmul, 1) := @dq_o105 cX0_powerAt 41 (qX0_powerAt_2 9 105 rfl)
theorem dX0_powerAt_42 : decode cX0_powerAt 42 = .ok (.ldc2_w 100, 3) := @dq_o20 cX0_powerAt 42 0 100 (qX0_powerAt_2 10 20 rfl) (qX0_powerAt_2 11 0 rfl) (qX0_powerAt_2 12 100 rfl)
theorem dX0_powerAt_45 : decode cX0_powerAt 45 = .ok (.ldiv, 1) := @dq_o109 cX0_powerAt 45 (qX0_powerAt_2 13 109 rfl)
theorem dX0_powerAt_46 : decode cX0_powerAt 46 = .ok (.lmul, 1) := @dq_o105 cX0_powerAt 46 (qX0_powerAt_2 14 105 rfl)
theorem dX0_powerAt_47 : decode cX0_powerAt 47 = .ok (.ladd, 1) := @dq_o97 cX0_powerAt 47 (qX0_powerAt_2 15 97 rfl)
theorem dX0_powerAt_48 : decode cX0_powerAt 48 = .ok (.lreturn, 1) := @dq_o173 cX0_powerAt 48 (qX0_powerAt_3 0 173 rfl)
abbrev qaX0_extract_0 : List Nat := [33, 10, 148, 156, 0, 5, 3, 172, 3, 54, 5, 21, 5, 16, 6, 162]
abbrev qaX0_extract_1 : List Nat := [0, 170, 42, 21, 5, 9, 182, 0, 102, 42, 180, 0, 21, 21, 5, 42]
abbrev qaX0_extract_2 : List Nat := [180, 0, 33, 180, 0, 59, 21, 5, 50, 42, 180, 0, 9, 182, 0, 63]
abbrev qaX0_extract_3 : List Nat := [80, 42, 180, 0, 15, 21, 5, 42, 180, 0, 21, 21, 5, 47, 184, 0]
abbrev qaX0_extract_4 : List Nat := [53, 42, 180, 0, 24, 21, 5, 42, 180, 0, 33, 180, 0, 59, 21, 5]
abbrev qaX0_extract_5 : List Nat := [50, 42, 180, 0, 15, 182, 0, 63, 80, 44, 21, 5, 47, 42, 21, 5]
abbrev qaX0_extract_6 : List Nat := [33, 182, 0, 92, 101, 55, 6, 22, 6, 33, 109, 55, 8, 22, 8, 33]
abbrev qaX0_extract_7 : List Nat := [105, 22, 6, 148, 154, 0, 21, 22, 8, 20, 0, 106, 148, 155, 0, 12]
abbrev qaX0_extract_8 : List Nat := [22, 8, 20, 0, 108, 148, 158, 0, 5, 3, 172, 42, 21, 5, 22, 8]
abbrev qaX0_extract_9 : List Nat := [182, 0, 102, 42, 180, 0, 21, 21, 5, 92, 47, 20, 0, 84, 22, 8]
abbrev qaX0_extract_10 : List Nat := [105, 97, 80, 42, 180, 0, 15, 21, 5, 42, 180, 0, 21, 21, 5, 47]
abbrev qaX0_extract_11 : List Nat := [184, 0, 53, 132, 5, 1, 167, 255, 85, 42, 180, 0, 18, 43, 184, 0]
abbrev qaX0_extract_12 : List Nat := [81, 4, 172]
def qtX0_extract_13 : List Nat := []
def qtX0_extract_12 : List Nat := qaX0_extract_12 ++ qtX0_extract_13
def qtX0_extract_11 : List Nat := qaX0_extract_11 ++ qtX0_extract_12
def qtX0_extract_10 : List Nat := qaX0_extract_10 ++ qtX0_extract_11
def qtX0_extract_9 : List Nat := qaX0_extract_9 ++ qtX0_extract_10
def qtX0_extract_8 : List Nat := qaX0_extract_8 ++ qtX0_extract_9
def qtX0_extract_7 : List Nat := qaX0_extract_7 ++ qtX0_extract_8
def qtX0_extract_6 : List Nat := qaX0_extract_6 ++ qtX0_extract_7
def qtX0_extract_5 : List Nat := qaX0_extract_5 ++ qtX0_extract_6
def qtX0_extract_4 : List Nat := qaX0_extract_4 ++ qtX0_extract_5
def qtX0_extract_3 : List Nat := qaX0_extract_3 ++ qtX0_extract_4
def qtX0_extract_2 : List Nat := qaX0_extract_2 ++ qtX0_extract_3
def qtX0_extract_1 : List Nat := qaX0_extract_1 ++ qtX0_extract_2
def qtX0_extract_0 : List Nat := qaX0_extract_0 ++ qtX0_extract_1
theorem qeX0_extract : cX0_extract.data.toList.map UInt8.toNat = qtX0_extract_0 := by decide +kernel
theorem qsX0_extract_0 : ∀ i, dqNth qtX0_extract_0 (0 + i) = dqNth qtX0_extract_0 i := fun i => by rw [Nat.zero_add]
theorem qsX0_extract_1 : ∀ i, dqNth qtX0_extract_0 (16 + i) = dqNth qtX0_extract_1 i := dq_step qsX0_extract_0 rfl rfl
theorem qsX0_extract_2 : ∀ i, dqNth qtX0_extract_0 (32 + i) = dqNth qtX0_extract_2 i := dq_step qsX0_extract_1 rfl rfl
theorem qsX0_extract_3 : ∀ i, dqNth qtX0_extract_0 (48 + i) = dqNth qtX0_extract_3 i := dq_step qsX0_extract_2 rfl rfl
theorem qsX0_extract_4 : ∀ i, dqNth qtX0_extract_0 (64 + i) = dqNth qtX0_extract_4 i := dq_step qsX0_extract_3 rfl rfl
theorem qsX0_extract_5 : ∀ i, dqNth qtX0_extract_0 (80 + i) = dqNth qtX0_extract_5 i := dq_step qsX0_extract_4 rfl rfl
theorem qsX0_extract_6 : ∀ i, dqNth qtX0_extract_0 (96 + i) = dqNth qtX0_extract_6 i := dq_step qsX0_extract_5 rfl rfl
theorem qsX0_extract_7 : ∀ i, dqNth qtX0_extract_0 (112 + i) = dqNth qtX0_extract_7 i := dq_step qsX0_extract_6 rfl rfl
theorem qsX0_extract_8 : ∀ i, dqNth qtX0_extract_0 (128 + i) = dqNth qtX0_extract_8 i := dq_step qsX0_extract_7 rfl rfl
theorem qsX0_extract_9 : ∀ i, dqNth qtX0_extract_0 (144 + i) = dqNth qtX0_extract_9 i := dq_step qsX0_extract_8 rfl rfl
theorem qsX0_extract_10 : ∀ i, dqNth qtX0_extract_0 (160 + i) = dqNth qtX0_extract_10 i := dq_step qsX0_extract_9 rfl rfl
theorem qsX0_extract_11 : ∀ i, dqNth qtX0_extract_0 (176 + i) = dqNth qtX0_extract_11 i := dq_step qsX0_extract_10 rfl rfl
theorem qsX0_extract_12 : ∀ i, dqNth qtX0_extract_0 (192 + i) = dqNth qtX0_extract_12 i := dq_step qsX0_extract_11 rfl rfl
theorem qX0_extract_0 (i b : Nat) (h : dqNth qaX0_extract_0 i = some b) : DqBy cX0_extract (0 + i) b := dqBy_of qeX0_extract ((qsX0_extract_0 i).trans (dq_in h))
theorem qX0_extract_1 (i b : Nat) (h : dqNth qaX0_extract_1 i = some b) : DqBy cX0_extract (16 + i) b := dqBy_of qeX0_extract ((qsX0_extract_1 i).trans (dq_in h))
theorem qX0_extract_2 (i b : Nat) (h : dqNth qaX0_extract_2 i = some b) : DqBy cX0_extract (32 + i) b := dqBy_of qeX0_extract ((qsX0_extract_2 i).trans (dq_in h))
theorem qX0_extract_3 (i b : Nat) (h : dqNth qaX0_extract_3 i = some b) : DqBy cX0_extract (48 + i) b := dqBy_of qeX0_extract ((qsX0_extract_3 i).trans (dq_in h))
theorem qX0_extract_4 (i b : Nat) (h : dqNth qaX0_extract_4 i = some b) : DqBy cX0_extract (64 + i) b := dqBy_of qeX0_extract ((qsX0_extract_4 i).trans (dq_in h))
theorem qX0_extract_5 (i b : Nat) (h : dqNth qaX0_extract_5 i = some b) : DqBy cX0_extract (80 + i) b := dqBy_of qeX0_extract ((qsX0_extract_5 i).trans (dq_in h))
theorem qX0_extract_6 (i b : Nat) (h : dqNth qaX0_extract_6 i = some b) : DqBy cX0_extract (96 + i) b := dqBy_of qeX0_extract ((qsX0_extract_6 i).trans (dq_in h))
theorem qX0_extract_7 (i b : Nat) (h : dqNth qaX0_extract_7 i = some b) : DqBy cX0_extract (112 + i) b := dqBy_of qeX0_extract ((qsX0_extract_7 i).trans (dq_in h))
theorem qX0_extract_8 (i b : Nat) (h : dqNth qaX0_extract_8 i = some b) : DqBy cX0_extract (128 + i) b := dqBy_of qeX0_extract ((qsX0_extract_8 i).trans (dq_in h))
theorem qX0_extract_9 (i b : Nat) (h : dqNth qaX0_extract_9 i = some b) : DqBy cX0_extract (144 + i) b := dqBy_of qeX0_extract ((qsX0_extract_9 i).trans (dq_in h))
theorem qX0_extract_10 (i b : Nat) (h : dqNth qaX0_extract_10 i = some b) : DqBy cX0_extract (160 + i) b := dqBy_of qeX0_extract ((qsX0_extract_10 i).trans (dq_in h))
theorem qX0_extract_11 (i b : Nat) (h : dqNth qaX0_extract_11 i = some b) : DqBy cX0_extract (176 + i) b := dqBy_of qeX0_extract ((qsX0_extract_11 i).trans (dq_in h))
theorem qX0_extract_12 (i b : Nat) (h : dqNth qaX0_extract_12 i = some b) : DqBy cX0_extract (192 + i) b := dqBy_of qeX0_extract ((qsX0_extract_12 i).trans (dq_in h))
theorem dX0_extract_0 : decode cX0_extract 0 = .ok (.lload_n 3, 1) := @dq_o33 cX0_extract 0 (qX0_extract_0 0 33 rfl)
theorem dX0_extract_1 : decode cX0_extract 1 = .ok (.lconst 1, 1) := @dq_o10 cX0_extract 1 (qX0_extract_0 1 10 rfl)
theorem dX0_extract_2 : decode cX0_extract 2 = .ok (.lcmp, 1) := @dq_o148 cX0_extract 2 (qX0_extract_0 2 148 rfl)
theorem dX0_extract_3 : decode cX0_extract 3 = .ok (.ifCond .ge 5, 3) := @dq_o156 cX0_extract 3 0 5 (qX0_extract_0 3 156 rfl) (qX0_extract_0 4 0 rfl) (qX0_extract_0 5 5 rfl)
theorem dX0_extract_6 : decode cX0_extract 6 = .ok (.iconst 0, 1) := @dq_o3 cX0_extract 6 (qX0_extract_0 6 3 rfl)
theorem dX0_extract_7 : decode cX0_extract 7 = .ok (.ireturn, 1) := @dq_o172 cX0_extract 7 (qX0_extract_0 7 172 rfl)
theorem dX0_extract_8 : decode cX0_extract 8 = .ok (.iconst 0, 1) := @dq_o3 cX0_extract 8 (qX0_extract_0 8 3 rfl)
theorem dX0_extract_9 : decode cX0_extract 9 = .ok (.istore 5, 2) := @dq_o54 cX0_extract 9 5 (qX0_extract_0 9 54 rfl) (qX0_extract_0 10 5 rfl)
theorem dX0_extract_11 : decode cX0_extract 11 = .ok (.iload 5, 2) := @dq_o21 cX0_extract 11 5 (qX0_extract_0 11 21 rfl) (qX0_extract_0 12 5 rfl)
theorem dX0_extract_13 : decode cX0_extract 13 = .ok (.bipush 6, 2) := @dq_o16 cX0_extract 13 6 (qX0_extract_0 13 16 rfl) (qX0_extract_0 14 6 rfl)
theorem dX0_extract_15 : decode cX0_extract 15 = .ok (.if_icmp .ge 170, 3) := @dq_o162 cX0_extract 15 0 170 (qX0_extract_0 15 162 rfl) (qX0_extract_1 0 0 rfl) (qX0_extract_1 1 170 rfl)
theorem dX0_extract_18 : decode cX0_extract 18 = .ok (.aload_n 0, 1) := @dq_o42 cX0_extract 18 (qX0_extract_1 2 42 rfl)
theorem dX0_extract_19 : decode cX0_extract 19 = .ok (.iload 5, 2) := @dq_o21 cX0_extract 19 5 (qX0_extract_1 3 21 rfl) (qX0_extract_1 4 5 rfl)
theorem dX0_extract_21 : decode cX0_extract 21 = .ok (.lconst 0, 1) := @dq_o9 cX0_extract 21 (qX0_extract_1 5 9 rfl)
theorem dX0_extract_22 : decode cX0_extract 22 = .ok (.invokevirtual 102, 3) := @dq_o182 cX0_extract 22 0 102 (qX0_extract_1 6 182 rfl) (qX0_extract_1 7 0 rfl) (qX0_extract_1 8 102 rfl)
theorem dX0_extract_25 : decode cX0_extract 25 = .ok (.aload_n 0, 1) := @dq_o42 cX0_extract 25 (qX0_extract_1 9 42 rfl)
theorem dX0_extract_26 : decode cX0_extract 26 = .ok (.getfield 21, 3) := @dq_o180 cX0_extract 26 0 21 (qX0_extract_1 10 180 rfl) (qX0_extract_1 11 0 rfl) (qX0_extract_1 12 21 rfl)
theorem dX0_extract_29 : decode cX0_extract 29 = .ok (.iload 5, 2) := @dq_o21 cX0_extract 29 5 (qX0_extract_1 13 21 rfl) (qX0_extract_1 14 5 rfl)
theorem dX0_extract_31 : decode cX0_extract 31 = .ok (.aload_n 0, 1) := @dq_o42 cX0_extract 31 (qX0_extract_1 15 42 rfl)
theorem dX0_extract_32 : decode cX0_extract 32 = .ok (.getfield 33, 3) := @dq_o180 cX0_extract 32 0 33 (qX0_extract_2 0 180 rfl) (qX0_extract_2 1 0 rfl) (qX0_extract_2 2 33 rfl)
theorem dX0_extract_35 : decode cX0_extract 35 = .ok (.getfield 59, 3) := @dq_o180 cX0_extract 35 0 59 (qX0_extract_2 3 180 rfl) (qX0_extract_2 4 0 rfl) (qX0_extract_2 5 59 rfl)
theorem dX0_extract_38 : decode cX0_extract 38 = .ok (.iload 5, 2) := @dq_o21 cX0_extract 38 5 (qX0_extract_2 6 21 rfl) (qX0_extract_2 7 5 rfl)
theorem dX0_extract_40 : decode cX0_extract 40 = .ok (.aaload, 1) := @dq_o50 cX0_extract 40 (qX0_extract_2 8 50 rfl)
theorem dX0_extract_41 : decode cX0_extract 41 = .ok (.aload_n 0, 1) := @dq_o42 cX0_extract 41 (qX0_extract_2 9 42 rfl)
theorem dX0_extract_42 : decode cX0_extract 42 = .ok (.getfield 9, 3) := @dq_o180 cX0_extract 42 0 9 (qX0_extract_2 10 180 rfl) (qX0_extract_2 11 0 rfl) (qX0_extract_2 12 9 rfl)
theorem dX0_extract_45 : decode cX0_extract 45 = .ok (.invokevirtual 63, 3) := @dq_o182 cX0_extract 45 0 63 (qX0_extract_2 13 182 rfl) (qX0_extract_2 14 0 rfl) (qX0_extract_2 15 63 rfl)
theorem dX0_extract_48 : decode cX0_extract 48 = .ok (.lastore, 1) := @dq_o80 cX0_extract 48 (qX0_extract_3 0 80 rfl)
theorem dX0_extract_49 : decode cX0_extract 49 = .ok (.aload_n 0, 1) := @dq_o42 cX0_extract 49 (qX0_extract_3 1 42 rfl)
theorem dX0_extract_50 : decode cX0_extract 50 = .ok (.getfield 15, 3) := @dq_o180 cX0_extract 50 0 15 (qX0_extract_3 2 180 rfl) (qX0_extract_3 3 0 rfl) (qX0_extract_3 4 15 rfl)
theorem dX0_extract_53 : decode cX0_extract 53 = .ok (.iload 5, 2) := @dq_o21 cX0_extract 53 5 (qX0_extract_3 5 21 rfl) (qX0_extract_3 6 5 rfl)
theorem dX0_extract_55 : decode cX0_extract 55 = .ok (.aload_n 0, 1) := @dq_o42 cX0_extract 55 (qX0_extract_3 7 42 rfl)
theorem dX0_extract_56 : decode cX0_extract 56 = .ok (.getfield 21, 3) := @dq_o180 cX0_extract 56 0 21 (qX0_extract_3 8 180 rfl) (qX0_extract_3 9 0 rfl) (qX0_extract_3 10 21 rfl)
theorem dX0_extract_59 : decode cX0_extract 59 = .ok (.iload 5, 2) := @dq_o21 cX0_extract 59 5 (qX0_extract_3 11 21 rfl) (qX0_extract_3 12 5 rfl)
theorem dX0_extract_61 : decode cX0_extract 61 = .ok (.laload, 1) := @dq_o47 cX0_extract 61 (qX0_extract_3 13 47 rfl)
theorem dX0_extract_62 : decode cX0_extract 62 = .ok (.invokestatic 53, 3) := @dq_o184 cX0_extract 62 0 53 (qX0_extract_3 14 184 rfl) (qX0_extract_3 15 0 rfl) (qX0_extract_4 0 53 rfl)
theorem dX0_extract_65 : decode cX0_extract 65 = .ok (.aload_n 0, 1) := @dq_o42 cX0_extract 65 (qX0_extract_4 1 42 rfl)
theorem dX0_extract_66 : decode cX0_extract 66 = .ok (.getfield 24, 3) := @dq_o180 cX0_extract 66 0 24 (qX0_extract_4 2 180 rfl) (qX0_extract_4 3 0 rfl) (qX0_extract_4 4 24 rfl)
theorem dX0_extract_69 : decode cX0_extract 69 = .ok (.iload 5, 2) := @dq_o21 cX0_extract 69 5 (qX0_extract_4 5 21 rfl) (qX0_extract_4 6 5 rfl)
theorem dX0_extract_71 : decode cX0_extract 71 = .ok (.aload_n 0, 1) := @dq_o42 cX0_extract 71 (qX0_extract_4 7 42 rfl)
theorem dX0_extract_72 : decode cX0_extract 72 = .ok (.getfield 33, 3) := @dq_o180 cX0_extract 72 0 33 (qX0_extract_4 8 180 rfl) (qX0_extract_4 9 0 rfl) (qX0_extract_4 10 33 rfl)
theorem dX0_extract_75 : decode cX0_extract 75 = .ok (.getfield 59, 3) := @dq_o180 cX0_extract 75 0 59 (qX0_extract_4 11 180 rfl) (qX0_extract_4 12 0 rfl) (qX0_extract_4 13 59 rfl)
theorem dX0_extract_78 : decode cX0_extract 78 = .ok (.iload 5, 2) := @dq_o21 cX0_extract 78 5 (qX0_extract_4 14 21 rfl) (qX0_extract_4 15 5 rfl)
theorem dX0_extract_80 : decode cX0_extract 80 = .ok (.aaload, 1) := @dq_o50 cX0_extract 80 (qX0_extract_5 0 50 rfl)
theorem dX0_extract_81 : decode cX0_extract 81 = .ok (.aload_n 0, 1) := @dq_o42 cX0_extract 81 (qX0_extract_5 1 42 rfl)
theorem dX0_extract_82 : decode cX0_extract 82 = .ok (.getfield 15, 3) := @dq_o180 cX0_extract 82 0 15 (qX0_extract_5 2 180 rfl) (qX0_extract_5 3 0 rfl) (qX0_extract_5 4 15 rfl)
theorem dX0_extract_85 : decode cX0_extract 85 = .ok (.invokevirtual 63, 3) := @dq_o182 cX0_extract 85 0 63 (qX0_extract_5 5 182 rfl) (qX0_extract_5 6 0 rfl) (qX0_extract_5 7 63 rfl)
theorem dX0_extract_88 : decode cX0_extract 88 = .ok (.lastore, 1) := @dq_o80 cX0_extract 88 (qX0_extract_5 8 80 rfl)
theorem dX0_extract_89 : decode cX0_extract 89 = .ok (.aload_n 2, 1) := @dq_o44 cX0_extract 89 (qX0_extract_5 9 44 rfl)
theorem dX0_extract_90 : decode cX0_extract 90 = .ok (.iload 5, 2) := @dq_o21 cX0_extract 90 5 (qX0_extract_5 10 21 rfl) (qX0_extract_5 11 5 rfl)
theorem dX0_extract_92 : decode cX0_extract 92 = .ok (.laload, 1) := @dq_o47 cX0_extract 92 (qX0_extract_5 12 47 rfl)
theorem dX0_extract_93 : decode cX0_extract 93 = .ok (.aload_n 0, 1) := @dq_o42 cX0_extract 93 (qX0_extract_5 13 42 rfl)
theorem dX0_extract_94 : decode cX0_extract 94 = .ok (.iload 5, 2) := @dq_o21 cX0_extract 94 5 (qX0_extract_5 14 21 rfl) (qX0_extract_5 15 5 rfl)
theorem dX0_extract_96 : decode cX0_extract 96 = .ok (.lload_n 3, 1) := @dq_o33 cX0_extract 96 (qX0_extract_6 0 33 rfl)
theorem dX0_extract_97 : decode cX0_extract 97 = .ok (.invokevirtual 92, 3) := @dq_o182 cX0_extract 97 0 92 (qX0_extract_6 1 182 rfl) (qX0_extract_6 2 0 rfl) (qX0_extract_6 3 92 rfl)
theorem dX0_extract_100 : decode cX0_extract 100 = .ok (.lsub, 1) := @dq_o101 cX0_extract 100 (qX0_extract_6 4 101 rfl)
theorem dX0_extract_101 : decode cX0_extract 101 = .ok (.lstore 6, 2) := @dq_o55 cX0_extract 101 6 (qX0_extract_6 5 55 rfl) (qX0_extract_6 6 6 rfl)
theorem dX0_extract_103 : decode cX0_extract 103 = .ok (.lload 6, 2) := @dq_o22 cX0_extract 103 6 (qX0_extract_6 7 22 rfl) (qX0_extract_6 8 6 rfl)
theorem dX0_extract_105 : decode cX0_extract 105 = .ok (.lload_n 3, 1) := @dq_o33 cX0_extract 105 (qX0_extract_6 9 33 rfl)
theorem dX0_extract_106 : decode cX0_extract 106 = .ok (.ldiv, 1) := @dq_o109 cX0_extract 106 (qX0_extract_6 10 109 rfl)
theorem dX0_extract_107 : decode cX0_extract 107 = .ok (.lstore 8, 2) := @dq_o55 cX0_extract 107 8 (qX0_extract_6 11 55 rfl) (qX0_extract_6 12 8 rfl)
theorem dX0_extract_109 : decode cX0_extract 109 = .ok (.lload 8, 2) := @dq_o22 cX0_extract 109 8 (qX0_extract_6 13 22 rfl) (qX0_extract_6 14 8 rfl)
theorem dX0_extract_111 : decode cX0_extract 111 = .ok (.lload_n 3, 1) := @dq_o33 cX0_extract 111 (qX0_extract_6 15 33 rfl)
theorem dX0_extract_112 : decode cX0_extract 112 = .ok (.lmul, 1) := @dq_o105 cX0_extract 112 (qX0_extract_7 0 105 rfl)
theorem dX0_extract_113 : decode cX0_extract 113 = .ok (.lload 6, 2) := @dq_o22 cX0_extract 113 6 (qX0_extract_7 1 22 rfl) (qX0_extract_7 2 6 rfl)
theorem dX0_extract_115 : decode cX0_extract 115 = .ok (.lcmp, 1) := @dq_o148 cX0_extract 115 (qX0_extract_7 3 148 rfl)
theorem dX0_extract_116 : decode cX0_extract 116 = .ok (.ifCond .ne 21, 3) := @dq_o154 cX0_extract 116 0 21 (qX0_extract_7 4 154 rfl) (qX0_extract_7 5 0 rfl) (qX0_extract_7 6 21 rfl)
theorem dX0_extract_119 : decode cX0_extract 119 = .ok (.lload 8, 2) := @dq_o22 cX0_extract 119 8 (qX0_extract_7 7 22 rfl) (qX0_extract_7 8 8 rfl)
theorem dX0_extract_121 : decode cX0_extract 121 = .ok (.ldc2_w 106, 3) := @dq_o20 cX0_extract 121 0 106 (qX0_extract_7 9 20 rfl) (qX0_extract_7 10 0 rfl) (qX0_extract_7 11 106 rfl)
theorem dX0_extract_124 : decode cX0_extract 124 = .ok (.lcmp, 1) := @dq_o148 cX0_extract 124 (qX0_extract_7 12 148 rfl)
theorem dX0_extract_125 : decode cX0_extract 125 = .ok (.ifCond .lt 12, 3) := @dq_o155 cX0_extract 125 0 12 (qX0_extract_7 13 155 rfl) (qX0_extract_7 14 0 rfl) (qX0_extract_7 15 12 rfl)
theorem dX0_extract_128 : decode cX0_extract 128 = .ok (.lload 8, 2) := @dq_o22 cX0_extract 128 8 (qX0_extract_8 0 22 rfl) (qX0_extract_8 1 8 rfl)
theorem dX0_extract_130 : decode cX0_extract 130 = .ok (.ldc2_w 108, 3) := @dq_o20 cX0_extract 130 0 108 (qX0_extract_8 2 20 rfl) (qX0_extract_8 3 0 rfl) (qX0_extract_8 4 108 rfl)
theorem dX0_extract_133 : decode cX0_extract 133 = .ok (.lcmp, 1) := @dq_o148 cX0_extract 133 (qX0_extract_8 5 148 rfl)
theorem dX0_extract_134 : decode cX0_extract 134 = .ok (.ifCond .le 5, 3) := @dq_o158 cX0_extract 134 0 5 (qX0_extract_8 6 158 rfl) (qX0_extract_8 7 0 rfl) (qX0_extract_8 8 5 rfl)
theorem dX0_extract_137 : decode cX0_extract 137 = .ok (.iconst 0, 1) := @dq_o3 cX0_extract 137 (qX0_extract_8 9 3 rfl)
theorem dX0_extract_138 : decode cX0_extract 138 = .ok (.ireturn, 1) := @dq_o172 cX0_extract 138 (qX0_extract_8 10 172 rfl)
theorem dX0_extract_139 : decode cX0_extract 139 = .ok (.aload_n 0, 1) := @dq_o42 cX0_extract 139 (qX0_extract_8 11 42 rfl)
theorem dX0_extract_140 : decode cX0_extract 140 = .ok (.iload 5, 2) := @dq_o21 cX0_extract 140 5 (qX0_extract_8 12 21 rfl) (qX0_extract_8 13 5 rfl)
theorem dX0_extract_142 : decode cX0_extract 142 = .ok (.lload 8, 2) := @dq_o22 cX0_extract 142 8 (qX0_extract_8 14 22 rfl) (qX0_extract_8 15 8 rfl)
theorem dX0_extract_144 : decode cX0_extract 144 = .ok (.invokevirtual 102, 3) := @dq_o182 cX0_extract 144 0 102 (qX0_extract_9 0 182 rfl) (qX0_extract_9 1 0 rfl) (qX0_extract_9 2 102 rfl)
theorem dX0_extract_147 : decode cX0_extract 147 = .ok (.aload_n 0, 1) := @dq_o42 cX0_extract 147 (qX0_extract_9 3 42 rfl)
theorem dX0_extract_148 : decode cX0_extract 148 = .ok (.getfield 21, 3) := @dq_o180 cX0_extract 148 0 21 (qX0_extract_9 4 180 rfl) (qX0_extract_9 5 0 rfl) (qX0_extract_9 6 21 rfl)
theorem dX0_extract_151 : decode cX0_extract 151 = .ok (.iload 5, 2) := @dq_o21 cX0_extract 151 5 (qX0_extract_9 7 21 rfl) (qX0_extract_9 8 5 rfl)
theorem dX0_extract_153 : decode cX0_extract 153 = .ok (.dup2, 1) := @dq_o92 cX0_extract 153 (qX0_extract_9 9 92 rfl)
theorem dX0_extract_154 : decode cX0_extract 154 = .ok (.laload, 1) := @dq_o47 cX0_extract 154 (qX0_extract_9 10 47 rfl)
theorem dX0_extract_155 : decode cX0_extract 155 = .ok (.ldc2_w 84, 3) := @dq_o20 cX0_extract 155 0 84 (qX0_extract_9 11 20 rfl) (qX0_extract_9 12 0 rfl) (qX0_extract_9 13 84 rfl)
theorem dX0_extract_158 : decode cX0_extract 158 = .ok (.lload 8, 2) := @dq_o22 cX0_extract 158 8 (qX0_extract_9 14 22 rfl) (qX0_extract_9 15 8 rfl)
theorem dX0_extract_160 : decode cX0_extract 160 = .ok (.lmul, 1) := @dq_o105 cX0_extract 160 (qX0_extract_10 0 105 rfl)
theorem dX0_extract_161 : decode cX0_extract 161 = .ok (.ladd, 1) := @dq_o97 cX0_extract 161 (qX0_extract_10 1 97 rfl)
theorem dX0_extract_162 : decode cX0_extract 162 = .ok (.lastore, 1) := @dq_o80 cX0_extract 162 (qX0_extract_10 2 80 rfl)
theorem dX0_extract_163 : decode cX0_extract 163 = .ok (.aload_n 0, 1) := @dq_o42 cX0_extract 163 (qX0_extract_10 3 42 rfl)
theorem dX0_extract_164 : decode cX0_extract 164 = .ok (.getfield 15, 3) := @dq_o180 cX0_extract 164 0 15 (qX0_extract_10 4 180 rfl) (qX0_extract_10 5 0 rfl) (qX0_extract_10 6 15 rfl)
theorem dX0_extract_167 : decode cX0_extract 167 = .ok (.iload 5, 2) := @dq_o21 cX0_extract 167 5 (qX0_extract_10 7 21 rfl) (qX0_extract_10 8 5 rfl)
theorem dX0_extract_169 : decode cX0_extract 169 = .ok (.aload_n 0, 1) := @dq_o42 cX0_extract 169 (qX0_extract_10 9 42 rfl)
theorem dX0_extract_170 : decode cX0_extract 170 = .ok (.getfield 21, 3) := @dq_o180 cX0_extract 170 0 21 (qX0_extract_10 10 180 rfl) (qX0_extract_10 11 0 rfl) (qX0_extract_10 12 21 rfl)
theorem dX0_extract_173 : decode cX0_extract 173 = .ok (.iload 5, 2) := @dq_o21 cX0_extract 173 5 (qX0_extract_10 13 21 rfl) (qX0_extract_10 14 5 rfl)
theorem dX0_extract_175 : decode cX0_extract 175 = .ok (.laload, 1) := @dq_o47 cX0_extract 175 (qX0_extract_10 15 47 rfl)
theorem dX0_extract_176 : decode cX0_extract 176 = .ok (.invokestatic 53, 3) := @dq_o184 cX0_extract 176 0 53 (qX0_extract_11 0 184 rfl) (qX0_extract_11 1 0 rfl) (qX0_extract_11 2 53 rfl)
theorem dX0_extract_179 : decode cX0_extract 179 = .ok (.iinc 5 1, 3) := @dq_o132 cX0_extract 179 5 1 (qX0_extract_11 3 132 rfl) (qX0_extract_11 4 5 rfl) (qX0_extract_11 5 1 rfl)
theorem dX0_extract_182 : decode cX0_extract 182 = .ok (.goto (-171), 3) := @dq_o167 cX0_extract 182 255 85 (qX0_extract_11 6 167 rfl) (qX0_extract_11 7 255 rfl) (qX0_extract_11 8 85 rfl)
theorem dX0_extract_185 : decode cX0_extract 185 = .ok (.aload_n 0, 1) := @dq_o42 cX0_extract 185 (qX0_extract_11 9 42 rfl)
theorem dX0_extract_186 : decode cX0_extract 186 = .ok (.getfield 18, 3) := @dq_o180 cX0_extract 186 0 18 (qX0_extract_11 10 180 rfl) (qX0_extract_11 11 0 rfl) (qX0_extract_11 12 18 rfl)
theorem dX0_extract_189 : decode cX0_extract 189 = .ok (.aload_n 1, 1) := @dq_o43 cX0_extract 189 (qX0_extract_11 13 43 rfl)
theorem dX0_extract_190 : decode cX0_extract 190 = .ok (.invokestatic 81, 3) := @dq_o184 cX0_extract 190 0 81 (qX0_extract_11 14 184 rfl) (qX0_extract_11 15 0 rfl) (qX0_extract_12 0 81 rfl)
theorem dX0_extract_193 : decode cX0_extract 193 = .ok (.iconst 1, 1) := @dq_o4 cX0_extract 193 (qX0_extract_12 1 4 rfl)
theorem dX0_extract_194 : decode cX0_extract 194 = .ok (.ireturn, 1) := @dq_o172 cX0_extract 194 (qX0_extract_12 2 172 rfl)
abbrev qaX0_putRoot_0 : List Nat := [42, 180, 0, 18, 27, 32, 80, 42, 180, 0, 9, 27, 32, 184, 0, 53]
abbrev qaX0_putRoot_1 : List Nat := [42, 180, 0, 9, 16, 6, 27, 96, 32, 184, 0, 53, 42, 180, 0, 15]
abbrev qaX0_putRoot_2 : List Nat := [16, 6, 27, 96, 32, 184, 0, 53, 177]
def qtX0_putRoot_3 : List Nat := []
def qtX0_putRoot_2 : List Nat := qaX0_putRoot_2 ++ qtX0_putRoot_3
def qtX0_putRoot_1 : List Nat := qaX0_putRoot_1 ++ qtX0_putRoot_2
def qtX0_putRoot_0 : List Nat := qaX0_putRoot_0 ++ qtX0_putRoot_1
theorem qeX0_putRoot : cX0_putRoot.data.toList.map UInt8.toNat = qtX0_putRoot_0 := by decide +kernel
theorem qsX0_putRoot_0 : ∀ i, dqNth qtX0_putRoot_0 (0 + i) = dqNth qtX0_putRoot_0 i := fun i => by rw [Nat.zero_add]
theorem qsX0_putRoot_1 : ∀ i, dqNth qtX0_putRoot_0 (16 + i) = dqNth qtX0_putRoot_1 i := dq_step qsX0_putRoot_0 rfl rfl
theorem qsX0_putRoot_2 : ∀ i, dqNth qtX0_putRoot_0 (32 + i) = dqNth qtX0_putRoot_2 i := dq_step qsX0_putRoot_1 rfl rfl
theorem qX0_putRoot_0 (i b : Nat) (h : dqNth qaX0_putRoot_0 i = some b) : DqBy cX0_putRoot (0 + i) b := dqBy_of qeX0_putRoot ((qsX0_putRoot_0 i).trans (dq_in h))
theorem qX0_putRoot_1 (i b : Nat) (h : dqNth qaX0_putRoot_1 i = some b) : DqBy cX0_putRoot (16 + i) b := dqBy_of qeX0_putRoot ((qsX0_putRoot_1 i).trans (dq_in h))
theorem qX0_putRoot_2 (i b : Nat) (h : dqNth qaX0_putRoot_2 i = some b) : DqBy cX0_putRoot (32 + i) b := dqBy_of qeX0_putRoot ((qsX0_putRoot_2 i).trans (dq_in h))
theorem dX0_putRoot_0 : decode cX0_putRoot 0 = .ok (.aload_n 0, 1) := @dq_o42 cX0_putRoot 0 (qX0_putRoot_0 0 42 rfl)
theorem dX0_putRoot_1 : decode cX0_putRoot 1 = .ok (.getfield 18, 3) := @dq_o180 cX0_putRoot 1 0 18 (qX0_putRoot_0 1 180 rfl) (qX0_putRoot_0 2 0 rfl) (qX0_putRoot_0 3 18 rfl)
theorem dX0_putRoot_4 : decode cX0_putRoot 4 = .ok (.iload_n 1, 1) := @dq_o27 cX0_putRoot 4 (qX0_putRoot_0 4 27 rfl)
theorem dX0_putRoot_5 : decode cX0_putRoot 5 = .ok (.lload_n 2, 1) := @dq_o32 cX0_putRoot 5 (qX0_putRoot_0 5 32 rfl)
theorem dX0_putRoot_6 : decode cX0_putRoot 6 = .ok (.lastore, 1) := @dq_o80 cX0_putRoot 6 (qX0_putRoot_0 6 80 rfl)
theorem dX0_putRoot_7 : decode cX0_putRoot 7 = .ok (.aload_n 0, 1) := @dq_o42 cX0_putRoot 7 (qX0_putRoot_0 7 42 rfl)
theorem dX0_putRoot_8 : decode cX0_putRoot 8 = .ok (.getfield 9, 3) := @dq_o180 cX0_putRoot 8 0 9 (qX0_putRoot_0 8 180 rfl) (qX0_putRoot_0 9 0 rfl) (qX0_putRoot_0 10 9 rfl)
theorem dX0_putRoot_11 : decode cX0_putRoot 11 = .ok (.iload_n 1, 1) := @dq_o27 cX0_putRoot 11 (qX0_putRoot_0 11 27 rfl)
theorem dX0_putRoot_12 : decode cX0_putRoot 12 = .ok (.lload_n 2, 1) := @dq_o32 cX0_putRoot 12 (qX0_putRoot_0 12 32 rfl)
theorem dX0_putRoot_13 : decode cX0_putRoot 13 = .ok (.invokestatic 53, 3) := @dq_o184 cX0_putRoot 13 0 53 (qX0_putRoot_0 13 184 rfl) (qX0_putRoot_0 14 0 rfl) (qX0_putRoot_0 15 53 rfl)
theorem dX0_putRoot_16 : decode cX0_putRoot 16 = .ok (.aload_n 0, 1) := @dq_o42 cX0_putRoot 16 (qX0_putRoot_1 0 42 rfl)
theorem dX0_putRoot_17 : decode cX0_putRoot 17 = .ok (.getfield 9, 3) := @dq_o180 cX0_putRoot 17 0 9 (qX0_putRoot_1 1 180 rfl) (qX0_putRoot_1 2 0 rfl) (qX0_putRoot_1 3 9 rfl)
theorem dX0_putRoot_20 : decode cX0_putRoot 20 = .ok (.bipush 6, 2) := @dq_o16 cX0_putRoot 20 6 (qX0_putRoot_1 4 16 rfl) (qX0_putRoot_1 5 6 rfl)
theorem dX0_putRoot_22 : decode cX0_putRoot 22 = .ok (.iload_n 1, 1) := @dq_o27 cX0_putRoot 22 (qX0_putRoot_1 6 27 rfl)
theorem dX0_putRoot_23 : decode cX0_putRoot 23 = .ok (.iadd, 1) := @dq_o96 cX0_putRoot 23 (qX0_putRoot_1 7 96 rfl)
theorem dX0_putRoot_24 : decode cX0_putRoot 24 = .ok (.lload_n 2, 1) := @dq_o32 cX0_putRoot 24 (qX0_putRoot_1 8 32 rfl)
theorem dX0_putRoot_25 : decode cX0_putRoot 25 = .ok (.invokestatic 53, 3) := @dq_o184 cX0_putRoot 25 0 53 (qX0_putRoot_1 9 184 rfl) (qX0_putRoot_1 10 0 rfl) (qX0_putRoot_1 11 53 rfl)
theorem dX0_putRoot_28 : decode cX0_putRoot 28 = .ok (.aload_n 0, 1) := @dq_o42 cX0_putRoot 28 (qX0_putRoot_1 12 42 rfl)
theorem dX0_putRoot_29 : decode cX0_putRoot 29 = .ok (.getfield 15, 3) := @dq_o180 cX0_putRoot 29 0 15 (qX0_putRoot_1 13 180 rfl) (qX0_putRoot_1 14 0 rfl) (qX0_putRoot_1 15 15 rfl)
theorem dX0_putRoot_32 : decode cX0_putRoot 32 = .ok (.bipush 6, 2) := @dq_o16 cX0_putRoot 32 6 (qX0_putRoot_2 0 16 rfl) (qX0_putRoot_2 1 6 rfl)
theorem dX0_putRoot_34 : decode cX0_putRoot 34 = .ok (.iload_n 1, 1) := @dq_o27 cX0_putRoot 34 (qX0_putRoot_2 2 27 rfl)
theorem dX0_putRoot_35 : decode cX0_putRoot 35 = .ok (.iadd, 1) := @dq_o96 cX0_putRoot 35 (qX0_putRoot_2 3 96 rfl)
theorem dX0_putRoot_36 : decode cX0_putRoot 36 = .ok (.lload_n 2, 1) := @dq_o32 cX0_putRoot 36 (qX0_putRoot_2 4 32 rfl)
theorem dX0_putRoot_37 : decode cX0_putRoot 37 = .ok (.invokestatic 53, 3) := @dq_o184 cX0_putRoot 37 0 53 (qX0_putRoot_2 5 184 rfl) (qX0_putRoot_2 6 0 rfl) (qX0_putRoot_2 7 53 rfl)
theorem dX0_putRoot_40 : decode cX0_putRoot 40 = .ok (.return_, 1) := @dq_o177 cX0_putRoot 40 (qX0_putRoot_2 8 177 rfl)
abbrev qaX1_init_0 : List Nat := [42, 183, 0, 3, 42, 3, 181, 0, 9, 42, 8, 188, 10, 181, 0, 15]
abbrev qaX1_init_1 : List Nat := [42, 17, 23, 118, 188, 11, 181, 0, 19, 42, 17, 16, 0, 188, 10, 181]
abbrev qaX1_init_2 : List Nat := [0, 23, 42, 3, 181, 0, 26, 42, 16, 6, 188, 11, 181, 0, 29, 42]
abbrev qaX1_init_3 : List Nat := [16, 6, 188, 11, 181, 0, 32, 42, 16, 6, 188, 11, 181, 0, 35, 42]
abbrev qaX1_init_4 : List Nat := [43, 181, 0, 38, 42, 44, 181, 0, 42, 177]
def qtX1_init_5 : List Nat := []
def qtX1_init_4 : List Nat := qaX1_init_4 ++ qtX1_init_5
def qtX1_init_3 : List Nat := qaX1_init_3 ++ qtX1_init_4
def qtX1_init_2 : List Nat := qaX1_init_2 ++ qtX1_init_3
def qtX1_init_1 : List Nat := qaX1_init_1 ++ qtX1_init_2
def qtX1_init_0 : List Nat := qaX1_init_0 ++ qtX1_init_1
theorem qeX1_init : cX1_init.data.toList.map UInt8.toNat = qtX1_init_0 := by decide +kernel
theorem qsX1_init_0 : ∀ i, dqNth qtX1_init_0 (0 + i) = dqNth qtX1_init_0 i := fun i => by rw [Nat.zero_add]
theorem qsX1_init_1 : ∀ i, dqNth qtX1_init_0 (16 + i) = dqNth qtX1_init_1 i := dq_step qsX1_init_0 rfl rfl
theorem qsX1_init_2 : ∀ i, dqNth qtX1_init_0 (32 + i) = dqNth qtX1_init_2 i := dq_step qsX1_init_1 rfl rfl
theorem qsX1_init_3 : ∀ i, dqNth qtX1_init_0 (48 + i) = dqNth qtX1_init_3 i := dq_step qsX1_init_2 rfl rfl
theorem qsX1_init_4 : ∀ i, dqNth qtX1_init_0 (64 + i) = dqNth qtX1_init_4 i := dq_step qsX1_init_3 rfl rfl
theorem qX1_init_0 (i b : Nat) (h : dqNth qaX1_init_0 i = some b) : DqBy cX1_init (0 + i) b := dqBy_of qeX1_init ((qsX1_init_0 i).trans (dq_in h))
theorem qX1_init_1 (i b : Nat) (h : dqNth qaX1_init_1 i = some b) : DqBy cX1_init (16 + i) b := dqBy_of qeX1_init ((qsX1_init_1 i).trans (dq_in h))
theorem qX1_init_2 (i b : Nat) (h : dqNth qaX1_init_2 i = some b) : DqBy cX1_init (32 + i) b := dqBy_of qeX1_init ((qsX1_init_2 i).trans (dq_in h))
theorem qX1_init_3 (i b : Nat) (h : dqNth qaX1_init_3 i = some b) : DqBy cX1_init (48 + i) b := dqBy_of qeX1_init ((qsX1_init_3 i).trans (dq_in h))
theorem qX1_init_4 (i b : Nat) (h : dqNth qaX1_init_4 i = some b) : DqBy cX1_init (64 + i) b := dqBy_of qeX1_init ((qsX1_init_4 i).trans (dq_in h))
theorem dX1_init_0 : decode cX1_init 0 = .ok (.aload_n 0, 1) := @dq_o42 cX1_init 0 (qX1_init_0 0 42 rfl)
theorem dX1_init_1 : decode cX1_init 1 = .ok (.invokespecial 3, 3) := @dq_o183 cX1_init 1 0 3 (qX1_init_0 1 183 rfl) (qX1_init_0 2 0 rfl) (qX1_init_0 3 3 rfl)
theorem dX1_init_4 : decode cX1_init 4 = .ok (.aload_n 0, 1) := @dq_o42 cX1_init 4 (qX1_init_0 4 42 rfl)
theorem dX1_init_5 : decode cX1_init 5 = .ok (.iconst 0, 1) := @dq_o3 cX1_init 5 (qX1_init_0 5 3 rfl)
theorem dX1_init_6 : decode cX1_init 6 = .ok (.putfield 9, 3) := @dq_o181 cX1_init 6 0 9 (qX1_init_0 6 181 rfl) (qX1_init_0 7 0 rfl) (qX1_init_0 8 9 rfl)
theorem dX1_init_9 : decode cX1_init 9 = .ok (.aload_n 0, 1) := @dq_o42 cX1_init 9 (qX1_init_0 9 42 rfl)
theorem dX1_init_10 : decode cX1_init 10 = .ok (.iconst 5, 1) := @dq_o8 cX1_init 10 (qX1_init_0 10 8 rfl)
theorem dX1_init_11 : decode cX1_init 11 = .ok (.newarray .int, 2) := by decide +kernel
theorem dX1_init_13 : decode cX1_init 13 = .ok (.putfield 15, 3) := @dq_o181 cX1_init 13 0 15 (qX1_init_0 13 181 rfl) (qX1_init_0 14 0 rfl) (qX1_init_0 15 15 rfl)
theorem dX1_init_16 : decode cX1_init 16 = .ok (.aload_n 0, 1) := @dq_o42 cX1_init 16 (qX1_init_1 0 42 rfl)
theorem dX1_init_17 : decode cX1_init 17 = .ok (.sipush 6006, 3) := @dq_o17 cX1_init 17 23 118 (qX1_init_1 1 17 rfl) (qX1_init_1 2 23 rfl) (qX1_init_1 3 118 rfl)
theorem dX1_init_20 : decode cX1_init 20 = .ok (.newarray .long, 2) := by decide +kernel
theorem dX1_init_22 : decode cX1_init 22 = .ok (.putfield 19, 3) := @dq_o181 cX1_init 22 0 19 (qX1_init_1 6 181 rfl) (qX1_init_1 7 0 rfl) (qX1_init_1 8 19 rfl)
theorem dX1_init_25 : decode cX1_init 25 = .ok (.aload_n 0, 1) := @dq_o42 cX1_init 25 (qX1_init_1 9 42 rfl)
theorem dX1_init_26 : decode cX1_init 26 = .ok (.sipush 4096, 3) := @dq_o17 cX1_init 26 16 0 (qX1_init_1 10 17 rfl) (qX1_init_1 11 16 rfl) (qX1_init_1 12 0 rfl)
theorem dX1_init_29 : decode cX1_init 29 = .ok (.newarray .int, 2) := by decide +kernel
theorem dX1_init_31 : decode cX1_init 31 = .ok (.putfield 23, 3) := @dq_o181 cX1_init 31 0 23 (qX1_init_1 15 181 rfl) (qX1_init_2 0 0 rfl) (qX1_init_2 1 23 rfl)
theorem dX1_init_34 : decode cX1_init 34 = .ok (.aload_n 0, 1) := @dq_o42 cX1_init 34 (qX1_init_2 2 42 rfl)
theorem dX1_init_35 : decode cX1_init 35 = .ok (.iconst 0, 1) := @dq_o3 cX1_init 35 (qX1_init_2 3 3 rfl)
theorem dX1_init_36 : decode cX1_init 36 = .ok (.putfield 26, 3) := @dq_o181 cX1_init 36 0 26 (qX1_init_2 4 181 rfl) (qX1_init_2 5 0 rfl) (qX1_init_2 6 26 rfl)
theorem dX1_init_39 : decode cX1_init 39 = .ok (.aload_n 0, 1) := @dq_o42 cX1_init 39 (qX1_init_2 7 42 rfl)
theorem dX1_init_40 : decode cX1_init 40 = .ok (.bipush 6, 2) := @dq_o16 cX1_init 40 6 (qX1_init_2 8 16 rfl) (qX1_init_2 9 6 rfl)
theorem dX1_init_42 : decode cX1_init 42 = .ok (.newarray .long, 2) := by decide +kernel
theorem dX1_init_44 : decode cX1_init 44 = .ok (.putfield 29, 3) := @dq_o181 cX1_init 44 0 29 (qX1_init_2 12 181 rfl) (qX1_init_2 13 0 rfl) (qX1_init_2 14 29 rfl)
theorem dX1_init_47 : decode cX1_init 47 = .ok (.aload_n 0, 1) := @dq_o42 cX1_init 47 (qX1_init_2 15 42 rfl)
theorem dX1_init_48 : decode cX1_init 48 = .ok (.bipush 6, 2) := @dq_o16 cX1_init 48 6 (qX1_init_3 0 16 rfl) (qX1_init_3 1 6 rfl)
theorem dX1_init_50 : decode cX1_init 50 = .ok (.newarray .long, 2) := by decide +kernel
theorem dX1_init_52 : decode cX1_init 52 = .ok (.putfield 32, 3) := @dq_o181 cX1_init 52 0 32 (qX1_init_3 4 181 rfl) (qX1_init_3 5 0 rfl) (qX1_init_3 6 32 rfl)
theorem dX1_init_55 : decode cX1_init 55 = .ok (.aload_n 0, 1) := @dq_o42 cX1_init 55 (qX1_init_3 7 42 rfl)
theorem dX1_init_56 : decode cX1_init 56 = .ok (.bipush 6, 2) := @dq_o16 cX1_init 56 6 (qX1_init_3 8 16 rfl) (qX1_init_3 9 6 rfl)
theorem dX1_init_58 : decode cX1_init 58 = .ok (.newarray .long, 2) := by decide +kernel
theorem dX1_init_60 : decode cX1_init 60 = .ok (.putfield 35, 3) := @dq_o181 cX1_init 60 0 35 (qX1_init_3 12 181 rfl) (qX1_init_3 13 0 rfl) (qX1_init_3 14 35 rfl)
theorem dX1_init_63 : decode cX1_init 63 = .ok (.aload_n 0, 1) := @dq_o42 cX1_init 63 (qX1_init_3 15 42 rfl)
theorem dX1_init_64 : decode cX1_init 64 = .ok (.aload_n 1, 1) := @dq_o43 cX1_init 64 (qX1_init_4 0 43 rfl)
theorem dX1_init_65 : decode cX1_init 65 = .ok (.putfield 38, 3) := @dq_o181 cX1_init 65 0 38 (qX1_init_4 1 181 rfl) (qX1_init_4 2 0 rfl) (qX1_init_4 3 38 rfl)
theorem dX1_init_68 : decode cX1_init 68 = .ok (.aload_n 0, 1) := @dq_o42 cX1_init 68 (qX1_init_4 4 42 rfl)
theorem dX1_init_69 : decode cX1_init 69 = .ok (.aload_n 2, 1) := @dq_o44 cX1_init 69 (qX1_init_4 5 44 rfl)
theorem dX1_init_70 : decode cX1_init 70 = .ok (.putfield 42, 3) := @dq_o181 cX1_init 70 0 42 (qX1_init_4 6 181 rfl) (qX1_init_4 7 0 rfl) (qX1_init_4 8 42 rfl)
theorem dX1_init_73 : decode cX1_init 73 = .ok (.return_, 1) := @dq_o177 cX1_init 73 (qX1_init_4 9 177 rfl)
abbrev qaX1_sizeOf_0 : List Nat := [42, 182, 0, 46, 27, 155, 0, 17, 27, 7, 163, 0, 12, 42, 180, 0]
abbrev qaX1_sizeOf_1 : List Nat := [15, 27, 46, 167, 0, 4, 2, 172]
def qtX1_sizeOf_2 : List Nat := []
def qtX1_sizeOf_1 : List Nat := qaX1_sizeOf_1 ++ qtX1_sizeOf_2
def qtX1_sizeOf_0 : List Nat := qaX1_sizeOf_0 ++ qtX1_sizeOf_1
theorem qeX1_sizeOf : cX1_sizeOf.data.toList.map UInt8.toNat = qtX1_sizeOf_0 := by decide +kernel
theorem qsX1_sizeOf_0 : ∀ i, dqNth qtX1_sizeOf_0 (0 + i) = dqNth qtX1_sizeOf_0 i := fun i => by rw [Nat.zero_add]
theorem qsX1_sizeOf_1 : ∀ i, dqNth qtX1_sizeOf_0 (16 + i) = dqNth qtX1_sizeOf_1 i := dq_step qsX1_sizeOf_0 rfl rfl
theorem qX1_sizeOf_0 (i b : Nat) (h : dqNth qaX1_sizeOf_0 i = some b) : DqBy cX1_sizeOf (0 + i) b := dqBy_of qeX1_sizeOf ((qsX1_sizeOf_0 i).trans (dq_in h))
theorem qX1_sizeOf_1 (i b : Nat) (h : dqNth qaX1_sizeOf_1 i = some b) : DqBy cX1_sizeOf (16 + i) b := dqBy_of qeX1_sizeOf ((qsX1_sizeOf_1 i).trans (dq_in h))
theorem dX1_sizeOf_0 : decode cX1_sizeOf 0 = .ok (.aload_n 0, 1) := @dq_o42 cX1_sizeOf 0 (qX1_sizeOf_0 0 42 rfl)
theorem dX1_sizeOf_1 : decode cX1_sizeOf 1 = .ok (.invokevirtual 46, 3) := @dq_o182 cX1_sizeOf 1 0 46 (qX1_sizeOf_0 1 182 rfl) (qX1_sizeOf_0 2 0 rfl) (qX1_sizeOf_0 3 46 rfl)
theorem dX1_sizeOf_4 : decode cX1_sizeOf 4 = .ok (.iload_n 1, 1) := @dq_o27 cX1_sizeOf 4 (qX1_sizeOf_0 4 27 rfl)
theorem dX1_sizeOf_5 : decode cX1_sizeOf 5 = .ok (.ifCond .lt 17, 3) := @dq_o155 cX1_sizeOf 5 0 17 (qX1_sizeOf_0 5 155 rfl) (qX1_sizeOf_0 6 0 rfl) (qX1_sizeOf_0 7 17 rfl)
theorem dX1_sizeOf_8 : decode cX1_sizeOf 8 = .ok (.iload_n 1, 1) := @dq_o27 cX1_sizeOf 8 (qX1_sizeOf_0 8 27 rfl)
theorem dX1_sizeOf_9 : decode cX1_sizeOf 9 = .ok (.iconst 4, 1) := @dq_o7 cX1_sizeOf 9 (qX1_sizeOf_0 9 7 rfl)
theorem dX1_sizeOf_10 : decode cX1_sizeOf 10 = .ok (.if_icmp .gt 12, 3) := @dq_o163 cX1_sizeOf 10 0 12 (qX1_sizeOf_0 10 163 rfl) (qX1_sizeOf_0 11 0 rfl) (qX1_sizeOf_0 12 12 rfl)
theorem dX1_sizeOf_13 : decode cX1_sizeOf 13 = .ok (.aload_n 0, 1) := @dq_o42 cX1_sizeOf 13 (qX1_sizeOf_0 13 42 rfl)
theorem dX1_sizeOf_14 : decode cX1_sizeOf 14 = .ok (.getfield 15, 3) := @dq_o180 cX1_sizeOf 14 0 15 (qX1_sizeOf_0 14 180 rfl) (qX1_sizeOf_0 15 0 rfl) (qX1_sizeOf_1 0 15 rfl)
theorem dX1_sizeOf_17 : decode cX1_sizeOf 17 = .ok (.iload_n 1, 1) := @dq_o27 cX1_sizeOf 17 (qX1_sizeOf_1 1 27 rfl)
theorem dX1_sizeOf_18 : decode cX1_sizeOf 18 = .ok (.iaload, 1) := @dq_o46 cX1_sizeOf 18 (qX1_sizeOf_1 2 46 rfl)
theorem dX1_sizeOf_19 : decode cX1_sizeOf 19 = .ok (.goto 4, 3) := @dq_o167 cX1_sizeOf 19 0 4 (qX1_sizeOf_1 3 167 rfl) (qX1_sizeOf_1 4 0 rfl) (qX1_sizeOf_1 5 4 rfl)
theorem dX1_sizeOf_22 : decode cX1_sizeOf 22 = .ok (.iconst (-1), 1) := @dq_o2 cX1_sizeOf 22 (qX1_sizeOf_1 6 2 rfl)
theorem dX1_sizeOf_23 : decode cX1_sizeOf 23 = .ok (.ireturn, 1) := @dq_o172 cX1_sizeOf 23 (qX1_sizeOf_1 7 172 rfl)
abbrev qaX1_levelOf_0 : List Nat := [42, 182, 0, 46, 42, 180, 0, 23, 42, 43, 182, 0, 49, 46, 4, 100]
abbrev qaX1_levelOf_1 : List Nat := [61, 3, 62, 29, 7, 163, 0, 35, 28, 155, 0, 31, 42, 180, 0, 15]
abbrev qaX1_levelOf_2 : List Nat := [29, 46, 2, 159, 0, 21, 28, 42, 180, 0, 15, 29, 46, 162, 0, 5]
abbrev qaX1_levelOf_3 : List Nat := [29, 172, 132, 3, 1, 167, 255, 222, 2, 172]
def qtX1_levelOf_4 : List Nat := []
def qtX1_levelOf_3 : List Nat := qaX1_levelOf_3 ++ qtX1_levelOf_4
def qtX1_levelOf_2 : List Nat := qaX1_levelOf_2 ++ qtX1_levelOf_3
def qtX1_levelOf_1 : List Nat := qaX1_levelOf_1 ++ qtX1_levelOf_2
def qtX1_levelOf_0 : List Nat := qaX1_levelOf_0 ++ qtX1_levelOf_1
theorem qeX1_levelOf : cX1_levelOf.data.toList.map UInt8.toNat = qtX1_levelOf_0 := by decide +kernel
theorem qsX1_levelOf_0 : ∀ i, dqNth qtX1_levelOf_0 (0 + i) = dqNth qtX1_levelOf_0 i := fun i => by rw [Nat.zero_add]
theorem qsX1_levelOf_1 : ∀ i, dqNth qtX1_levelOf_0 (16 + i) = dqNth qtX1_levelOf_1 i := dq_step qsX1_levelOf_0 rfl rfl
theorem qsX1_levelOf_2 : ∀ i, dqNth qtX1_levelOf_0 (32 + i) = dqNth qtX1_levelOf_2 i := dq_step qsX1_levelOf_1 rfl rfl
theorem qsX1_levelOf_3 : ∀ i, dqNth qtX1_levelOf_0 (48 + i) = dqNth qtX1_levelOf_3 i := dq_step qsX1_levelOf_2 rfl rfl
theorem qX1_levelOf_0 (i b : Nat) (h : dqNth qaX1_levelOf_0 i = some b) : DqBy cX1_levelOf (0 + i) b := dqBy_of qeX1_levelOf ((qsX1_levelOf_0 i).trans (dq_in h))
theorem qX1_levelOf_1 (i b : Nat) (h : dqNth qaX1_levelOf_1 i = some b) : DqBy cX1_levelOf (16 + i) b := dqBy_of qeX1_levelOf ((qsX1_levelOf_1 i).trans (dq_in h))
theorem qX1_levelOf_2 (i b : Nat) (h : dqNth qaX1_levelOf_2 i = some b) : DqBy cX1_levelOf (32 + i) b := dqBy_of qeX1_levelOf ((qsX1_levelOf_2 i).trans (dq_in h))
theorem qX1_levelOf_3 (i b : Nat) (h : dqNth qaX1_levelOf_3 i = some b) : DqBy cX1_levelOf (48 + i) b := dqBy_of qeX1_levelOf ((qsX1_levelOf_3 i).trans (dq_in h))
theorem dX1_levelOf_0 : decode cX1_levelOf 0 = .ok (.aload_n 0, 1) := @dq_o42 cX1_levelOf 0 (qX1_levelOf_0 0 42 rfl)
theorem dX1_levelOf_1 : decode cX1_levelOf 1 = .ok (.invokevirtual 46, 3) := @dq_o182 cX1_levelOf 1 0 46 (qX1_levelOf_0 1 182 rfl) (qX1_levelOf_0 2 0 rfl) (qX1_levelOf_0 3 46 rfl)
theorem dX1_levelOf_4 : decode cX1_levelOf 4 = .ok (.aload_n 0, 1) := @dq_o42 cX1_levelOf 4 (qX1_levelOf_0 4 42 rfl)
theorem dX1_levelOf_5 : decode cX1_levelOf 5 = .ok (.getfield 23, 3) := @dq_o180 cX1_levelOf 5 0 23 (qX1_levelOf_0 5 180 rfl) (qX1_levelOf_0 6 0 rfl) (qX1_levelOf_0 7 23 rfl)
theorem dX1_levelOf_8 : decode cX1_levelOf 8 = .ok (.aload_n 0, 1) := @dq_o42 cX1_levelOf 8 (qX1_levelOf_0 8 42 rfl)
theorem dX1_levelOf_9 : decode cX1_levelOf 9 = .ok (.aload_n 1, 1) := @dq_o43 cX1_levelOf 9 (qX1_levelOf_0 9 43 rfl)
theorem dX1_levelOf_10 : decode cX1_levelOf 10 = .ok (.invokevirtual 49, 3) := @dq_o182 cX1_levelOf 10 0 49 (qX1_levelOf_0 10 182 rfl) (qX1_levelOf_0 11 0 rfl) (qX1_levelOf_0 12 49 rfl)
theorem dX1_levelOf_13 : decode cX1_levelOf 13 = .ok (.iaload, 1) := @dq_o46 cX1_levelOf 13 (qX1_levelOf_0 13 46 rfl)
theorem dX1_levelOf_14 : decode cX1_levelOf 14 = .ok (.iconst 1, 1) := @dq_o4 cX1_levelOf 14 (qX1_levelOf_0 14 4 rfl)
theorem dX1_levelOf_15 : decode cX1_levelOf 15 = .ok (.isub, 1) := @dq_o100 cX1_levelOf 15 (qX1_levelOf_0 15 100 rfl)
theorem dX1_levelOf_16 : decode cX1_levelOf 16 = .ok (.istore_n 2, 1) := @dq_o61 cX1_levelOf 16 (qX1_levelOf_1 0 61 rfl)
theorem dX1_levelOf_17 : decode cX1_levelOf 17 = .ok (.iconst 0, 1) := @dq_o3 cX1_levelOf 17 (qX1_levelOf_1 1 3 rfl)
theorem dX1_levelOf_18 : decode cX1_levelOf 18 = .ok (.istore_n 3, 1) := @dq_o62 cX1_levelOf 18 (qX1_levelOf_1 2 62 rfl)
theorem dX1_levelOf_19 : decode cX1_levelOf 19 = .ok (.iload_n 3, 1) := @dq_o29 cX1_levelOf 19 (qX1_levelOf_1 3 29 rfl)
theorem dX1_levelOf_20 : decode cX1_levelOf 20 = .ok (.iconst 4, 1) := @dq_o7 cX1_levelOf 20 (qX1_levelOf_1 4 7 rfl)
theorem dX1_levelOf_21 : decode cX1_levelOf 21 = .ok (.if_icmp .gt 35, 3) := @dq_o163 cX1_levelOf 21 0 35 (qX1_levelOf_1 5 163 rfl) (qX1_levelOf_1 6 0 rfl) (qX1_levelOf_1 7 35 rfl)
theorem dX1_levelOf_24 : decode cX1_levelOf 24 = .ok (.iload_n 2, 1) := @dq_o28 cX1_levelOf 24 (qX1_levelOf_1 8 28 rfl)
theorem dX1_levelOf_25 : decode cX1_levelOf 25 = .ok (.ifCond .lt 31, 3) := @dq_o155 cX1_levelOf 25 0 31 (qX1_levelOf_1 9 155 rfl) (qX1_levelOf_1 10 0 rfl) (qX1_levelOf_1 11 31 rfl)
theorem dX1_levelOf_28 : decode cX1_levelOf 28 = .ok (.aload_n 0, 1) := @dq_o42 cX1_levelOf 28 (qX1_levelOf_1 12 42 rfl)
theorem dX1_levelOf_29 : decode cX1_levelOf 29 = .ok (.getfield 15, 3) := @dq_o180 cX1_levelOf 29 0 15 (qX1_levelOf_1 13 180 rfl) (qX1_levelOf_1 14 0 rfl) (qX1_levelOf_1 15 15 rfl)
theorem dX1_levelOf_32 : decode cX1_levelOf 32 = .ok (.iload_n 3, 1) := @dq_o29 cX1_levelOf 32 (qX1_levelOf_2 0 29 rfl)
theorem dX1_levelOf_33 : decode cX1_levelOf 33 = .ok (.iaload, 1) := @dq_o46 cX1_levelOf 33 (qX1_levelOf_2 1 46 rfl)
theorem dX1_levelOf_34 : decode cX1_levelOf 34 = .ok (.iconst (-1), 1) := @dq_o2 cX1_levelOf 34 (qX1_levelOf_2 2 2 rfl)
theorem dX1_levelOf_35 : decode cX1_levelOf 35 = .ok (.if_icmp .eq 21, 3) := @dq_o159 cX1_levelOf 35 0 21 (qX1_levelOf_2 3 159 rfl) (qX1_levelOf_2 4 0 rfl) (qX1_levelOf_2 5 21 rfl)
theorem dX1_levelOf_38 : decode cX1_levelOf 38 = .ok (.iload_n 2, 1) := @dq_o28 cX1_levelOf 38 (qX1_levelOf_2 6 28 rfl)
theorem dX1_levelOf_39 : decode cX1_levelOf 39 = .ok (.aload_n 0, 1) := @dq_o42 cX1_levelOf 39 (qX1_levelOf_2 7 42 rfl)
theorem dX1_levelOf_40 : decode cX1_levelOf 40 = .ok (.getfield 15, 3) := @dq_o180 cX1_levelOf 40 0 15 (qX1_levelOf_2 8 180 rfl) (qX1_levelOf_2 9 0 rfl) (qX1_levelOf_2 10 15 rfl)
theorem dX1_levelOf_43 : decode cX1_levelOf 43 = .ok (.iload_n 3, 1) := @dq_o29 cX1_levelOf 43 (qX1_levelOf_2 11 29 rfl)
theorem dX1_levelOf_44 : decode cX1_levelOf 44 = .ok (.iaload, 1) := @dq_o46 cX1_levelOf 44 (qX1_levelOf_2 12 46 rfl)
theorem dX1_levelOf_45 : decode cX1_levelOf 45 = .ok (.if_icmp .ge 5, 3) := @dq_o162 cX1_levelOf 45 0 5 (qX1_levelOf_2 13 162 rfl) (qX1_levelOf_2 14 0 rfl) (qX1_levelOf_2 15 5 rfl)
theorem dX1_levelOf_48 : decode cX1_levelOf 48 = .ok (.iload_n 3, 1) := @dq_o29 cX1_levelOf 48 (qX1_levelOf_3 0 29 rfl)
theorem dX1_levelOf_49 : decode cX1_levelOf 49 = .ok (.ireturn, 1) := @dq_o172 cX1_levelOf 49 (qX1_levelOf_3 1 172 rfl)
theorem dX1_levelOf_50 : decode cX1_levelOf 50 = .ok (.iinc 3 1, 3) := @dq_o132 cX1_levelOf 50 3 1 (qX1_levelOf_3 2 132 rfl) (qX1_levelOf_3 3 3 rfl) (qX1_levelOf_3 4 1 rfl)
theorem dX1_levelOf_53 : decode cX1_levelOf 53 = .ok (.goto (-34), 3) := @dq_o167 cX1_levelOf 53 255 222 (qX1_levelOf_3 5 167 rfl) (qX1_levelOf_3 6 255 rfl) (qX1_levelOf_3 7 222 rfl)
theorem dX1_levelOf_56 : decode cX1_levelOf 56 = .ok (.iconst (-1), 1) := @dq_o2 cX1_levelOf 56 (qX1_levelOf_3 8 2 rfl)
theorem dX1_levelOf_57 : decode cX1_levelOf 57 = .ok (.ireturn, 1) := @dq_o172 cX1_levelOf 57 (qX1_levelOf_3 9 172 rfl)
abbrev qaX1_find_0 : List Nat := [42, 180, 0, 9, 42, 180, 0, 38, 180, 0, 53, 160, 0, 4, 177, 42]
abbrev qaX1_find_1 : List Nat := [42, 180, 0, 38, 180, 0, 53, 181, 0, 9, 42, 180, 0, 23, 3, 184]
abbrev qaX1_find_2 : List Nat := [0, 56, 42, 3, 181, 0, 26, 42, 180, 0, 35, 9, 184, 0, 62, 42]
abbrev qaX1_find_3 : List Nat := [182, 0, 65, 42, 180, 0, 15, 3, 42, 180, 0, 26, 79, 3, 60, 4]
abbrev qaX1_find_4 : List Nat := [61, 28, 7, 163, 0, 46, 42, 180, 0, 26, 62, 42, 27, 29, 182, 0]
abbrev qaX1_find_5 : List Nat := [68, 42, 180, 0, 15, 28, 42, 180, 0, 26, 17, 3, 232, 164, 0, 7]
abbrev qaX1_find_6 : List Nat := [2, 167, 0, 7, 42, 180, 0, 26, 79, 29, 60, 132, 2, 1, 167, 255]
abbrev qaX1_find_7 : List Nat := [211, 177]
def qtX1_find_8 : List Nat := []
def qtX1_find_7 : List Nat := qaX1_find_7 ++ qtX1_find_8
def qtX1_find_6 : List Nat := qaX1_find_6 ++ qtX1_find_7
def qtX1_find_5 : List Nat := qaX1_find_5 ++ qtX1_find_6
def qtX1_find_4 : List Nat := qaX1_find_4 ++ qtX1_find_5
def qtX1_find_3 : List Nat := qaX1_find_3 ++ qtX1_find_4
def qtX1_find_2 : List Nat := qaX1_find_2 ++ qtX1_find_3
def qtX1_find_1 : List Nat := qaX1_find_1 ++ qtX1_find_2
def qtX1_find_0 : List Nat := qaX1_find_0 ++ qtX1_find_1
theorem qeX1_find : cX1_find.data.toList.map UInt8.toNat = qtX1_find_0 := by decide +kernel
theorem qsX1_find_0 : ∀ i, dqNth qtX1_find_0 (0 + i) = dqNth qtX1_find_0 i := fun i => by rw [Nat.zero_add]
theorem qsX1_find_1 : ∀ i, dqNth qtX1_find_0 (16 + i) = dqNth qtX1_find_1 i := dq_step qsX1_find_0 rfl rfl
theorem qsX1_find_2 : ∀ i, dqNth qtX1_find_0 (32 + i) = dqNth qtX1_find_2 i := dq_step qsX1_find_1 rfl rfl
theorem qsX1_find_3 : ∀ i, dqNth qtX1_find_0 (48 + i) = dqNth qtX1_find_3 i := dq_step qsX1_find_2 rfl rfl
theorem qsX1_find_4 : ∀ i, dqNth qtX1_find_0 (64 + i) = dqNth qtX1_find_4 i := dq_step qsX1_find_3 rfl rfl
theorem qsX1_find_5 : ∀ i, dqNth qtX1_find_0 (80 + i) = dqNth qtX1_find_5 i := dq_step qsX1_find_4 rfl rfl
theorem qsX1_find_6 : ∀ i, dqNth qtX1_find_0 (96 + i) = dqNth qtX1_find_6 i := dq_step qsX1_find_5 rfl rfl
theorem qsX1_find_7 : ∀ i, dqNth qtX1_find_0 (112 + i) = dqNth qtX1_find_7 i := dq_step qsX1_find_6 rfl rfl
theorem qX1_find_0 (i b : Nat) (h : dqNth qaX1_find_0 i = some b) : DqBy cX1_find (0 + i) b := dqBy_of qeX1_find ((qsX1_find_0 i).trans (dq_in h))
theorem qX1_find_1 (i b : Nat) (h : dqNth qaX1_find_1 i = some b) : DqBy cX1_find (16 + i) b := dqBy_of qeX1_find ((qsX1_find_1 i).trans (dq_in h))
theorem qX1_find_2 (i b : Nat) (h : dqNth qaX1_find_2 i = some b) : DqBy cX1_find (32 + i) b := dqBy_of qeX1_find ((qsX1_find_2 i).trans (dq_in h))
theorem qX1_find_3 (i b : Nat) (h : dqNth qaX1_find_3 i = some b) : DqBy cX1_find (48 + i) b := dqBy_of qeX1_find ((qsX1_find_3 i).trans (dq_in h))
theorem qX1_find_4 (i b : Nat) (h : dqNth qaX1_find_4 i = some b) : DqBy cX1_find (64 + i) b := dqBy_of qeX1_find ((qsX1_find_4 i).trans (dq_in h))
theorem qX1_find_5 (i b : Nat) (h : dqNth qaX1_find_5 i = some b) : DqBy cX1_find (80 + i) b := dqBy_of qeX1_find ((qsX1_find_5 i).trans (dq_in h))
theorem qX1_find_6 (i b : Nat) (h : dqNth qaX1_find_6 i = some b) : DqBy cX1_find (96 + i) b := dqBy_of qeX1_find ((qsX1_find_6 i).trans (dq_in h))
theorem qX1_find_7 (i b : Nat) (h : dqNth qaX1_find_7 i = some b) : DqBy cX1_find (112 + i) b := dqBy_of qeX1_find ((qsX1_find_7 i).trans (dq_in h))
theorem dX1_find_0 : decode cX1_find 0 = .ok (.aload_n 0, 1) := @dq_o42 cX1_find 0 (qX1_find_0 0 42 rfl)
theorem dX1_find_1 : decode cX1_find 1 = .ok (.getfield 9, 3) := @dq_o180 cX1_find 1 0 9 (qX1_find_0 1 180 rfl) (qX1_find_0 2 0 rfl) (qX1_find_0 3 9 rfl)
theorem dX1_find_4 : decode cX1_find 4 = .ok (.aload_n 0, 1) := @dq_o42 cX1_find 4 (qX1_find_0 4 42 rfl)
theorem dX1_find_5 : decode cX1_find 5 = .ok (.getfield 38, 3) := @dq_o180 cX1_find 5 0 38 (qX1_find_0 5 180 rfl) (qX1_find_0 6 0 rfl) (qX1_find_0 7 38 rfl)
theorem dX1_find_8 : decode cX1_find 8 = .ok (.getfield 53, 3) := @dq_o180 cX1_find 8 0 53 (qX1_find_0 8 180 rfl) (qX1_find_0 9 0 rfl) (qX1_find_0 10 53 rfl)
theorem dX1_find_11 : decode cX1_find 11 = .ok (.if_icmp .ne 4, 3) := @dq_o160 cX1_find 11 0 4 (qX1_find_0 11 160 rfl) (qX1_find_0 12 0 rfl) (qX1_find_0 13 4 rfl)
theorem dX1_find_14 : decode cX1_find 14 = .ok (.return_, 1) := @dq_o177 cX1_find 14 (qX1_find_0 14 177 rfl)
theorem dX1_find_15 : decode cX1_find 15 = .ok (.aload_n 0, 1) := @dq_o42 cX1_find 15 (qX1_find_0 15 42 rfl)
theorem dX1_find_16 : decode cX1_find 16 = .ok (.aload_n 0, 1) := @dq_o42 cX1_find 16 (qX1_find_1 0 42 rfl)
theorem dX1_find_17 : decode cX1_find 17 = .ok (.getfield 38, 3) := @dq_o180 cX1_find 17 0 38 (qX1_find_1 1 180 rfl) (qX1_find_1 2 0 rfl) (qX1_find_1 3 38 rfl)
theorem dX1_find_20 : decode cX1_find 20 = .ok (.getfield 53, 3) := @dq_o180 cX1_find 20 0 53 (qX1_find_1 4 180 rfl) (qX1_find_1 5 0 rfl) (qX1_find_1 6 53 rfl)
theorem dX1_find_23 : decode cX1_find 23 = .ok (.putfield 9, 3) := @dq_o181 cX1_find 23 0 9 (qX1_find_1 7 181 rfl) (qX1_find_1 8 0 rfl) (qX1_find_1 9 9 rfl)
theorem dX1_find_26 : decode cX1_find 26 = .ok (.aload_n 0, 1) := @dq_o42 cX1_find 26 (qX1_find_1 10 42 rfl)
theorem dX1_find_27 : decode cX1_find 27 = .ok (.getfield 23, 3) := @dq_o180 cX1_find 27 0 23 (qX1_find_1 11 180 rfl) (qX1_find_1 12 0 rfl) (qX1_find_1 13 23 rfl)
theorem dX1_find_30 : decode cX1_find 30 = .ok (.iconst 0, 1) := @dq_o3 cX1_find 30 (qX1_find_1 14 3 rfl)
theorem dX1_find_31 : decode cX1_find 31 = .ok (.invokestatic 56, 3) := @dq_o184 cX1_find 31 0 56 (qX1_find_1 15 184 rfl) (qX1_find_2 0 0 rfl) (qX1_find_2 1 56 rfl)
theorem dX1_find_34 : decode cX1_find 34 = .ok (.aload_n 0, 1) := @dq_o42 cX1_find 34 (qX1_find_2 2 42 rfl)
theorem dX1_find_35 : decode cX1_find 35 = .ok (.iconst 0, 1) := @dq_o3 cX1_find 35 (qX1_find_2 3 3 rfl)
theorem dX1_find_36 : decode cX1_find 36 = .ok (.putfield 26, 3) := @dq_o181 cX1_find 36 0 26 (qX1_find_2 4 181 rfl) (qX1_find_2 5 0 rfl) (qX1_find_2 6 26 rfl)
theorem dX1_find_39 : decode cX1_find 39 = .ok (.aload_n 0, 1) := @dq_o42 cX1_find 39 (qX1_find_2 7 42 rfl)
theorem dX1_find_40 : decode cX1_find 40 = .ok (.getfield 35, 3) := @dq_o180 cX1_find 40 0 35 (qX1_find_2 8 180 rfl) (qX1_find_2 9 0 rfl) (qX1_find_2 10 35 rfl)
theorem dX1_find_43 : decode cX1_find 43 = .ok (.lconst 0, 1) := @dq_o9 cX1_find 43 (qX1_find_2 11 9 rfl)
theorem dX1_find_44 : decode cX1_find 44 = .ok (.invokestatic 62, 3) := @dq_o184 cX1_find 44 0 62 (qX1_find_2 12 184 rfl) (qX1_find_2 13 0 rfl) (qX1_find_2 14 62 rfl)
theorem dX1_find_47 : decode cX1_find 47 = .ok (.aload_n 0, 1) := @dq_o42 cX1_find 47 (qX1_find_2 15 42 rfl)
theorem dX1_find_48 : decode cX1_find 48 = .ok (.invokevirtual 65, 3) := @dq_o182 cX1_find 48 0 65 (qX1_find_3 0 182 rfl) (qX1_find_3 1 0 rfl) (qX1_find_3 2 65 rfl)
theorem dX1_find_51 : decode cX1_find 51 = .ok (.aload_n 0, 1) := @dq_o42 cX1_find 51 (qX1_find_3 3 42 rfl)
theorem dX1_find_52 : decode cX1_find 52 = .ok (.getfield 15, 3) := @dq_o180 cX1_find 52 0 15 (qX1_find_3 4 180 rfl) (qX1_find_3 5 0 rfl) (qX1_find_3 6 15 rfl)
theorem dX1_find_55 : decode cX1_find 55 = .ok (.iconst 0, 1) := @dq_o3 cX1_find 55 (qX1_find_3 7 3 rfl)
theorem dX1_find_56 : decode cX1_find 56 = .ok (.aload_n 0, 1) := @dq_o42 cX1_find 56 (qX1_find_3 8 42 rfl)
theorem dX1_find_57 : decode cX1_find 57 = .ok (.getfield 26, 3) := @dq_o180 cX1_find 57 0 26 (qX1_find_3 9 180 rfl) (qX1_find_3 10 0 rfl) (qX1_find_3 11 26 rfl)
theorem dX1_find_60 : decode cX1_find 60 = .ok (.iastore, 1) := @dq_o79 cX1_find 60 (qX1_find_3 12 79 rfl)
theorem dX1_find_61 : decode cX1_find 61 = .ok (.iconst 0, 1) := @dq_o3 cX1_find 61 (qX1_find_3 13 3 rfl)
theorem dX1_find_62 : decode cX1_find 62 = .ok (.istore_n 1, 1) := @dq_o60 cX1_find 62 (qX1_find_3 14 60 rfl)
theorem dX1_find_63 : decode cX1_find 63 = .ok (.iconst 1, 1) := @dq_o4 cX1_find 63 (qX1_find_3 15 4 rfl)
theorem dX1_find_64 : decode cX1_find 64 = .ok (.istore_n 2, 1) := @dq_o61 cX1_find 64 (qX1_find_4 0 61 rfl)
theorem dX1_find_65 : decode cX1_find 65 = .ok (.iload_n 2, 1) := @dq_o28 cX1_find 65 (qX1_find_4 1 28 rfl)
theorem dX1_find_66 : decode cX1_find 66 = .ok (.iconst 4, 1) := @dq_o7 cX1_find 66 (qX1_find_4 2 7 rfl)
theorem dX1_find_67 : decode cX1_find 67 = .ok (.if_icmp .gt 46, 3) := @dq_o163 cX1_find 67 0 46 (qX1_find_4 3 163 rfl) (qX1_find_4 4 0 rfl) (qX1_find_4 5 46 rfl)
theorem dX1_find_70 : decode cX1_find 70 = .ok (.aload_n 0, 1) := @dq_o42 cX1_find 70 (qX1_find_4 6 42 rfl)
theorem dX1_find_71 : decode cX1_find 71 = .ok (.getfield 26, 3) := @dq_o180 cX1_find 71 0 26 (qX1_find_4 7 180 rfl) (qX1_find_4 8 0 rfl) (qX1_find_4 9 26 rfl)
theorem dX1_find_74 : decode cX1_find 74 = .ok (.istore_n 3, 1) := @dq_o62 cX1_find 74 (qX1_find_4 10 62 rfl)
theorem dX1_find_75 : decode cX1_find 75 = .ok (.aload_n 0, 1) := @dq_o42 cX1_find 75 (qX1_find_4 11 42 rfl)
theorem dX1_find_76 : decode cX1_find 76 = .ok (.iload_n 1, 1) := @dq_o27 cX1_find 76 (qX1_find_4 12 27 rfl)
theorem dX1_find_77 : decode cX1_find 77 = .ok (.iload_n 3, 1) := @dq_o29 cX1_find 77 (qX1_find_4 13 29 rfl)
theorem dX1_find_78 : decode cX1_find 78 = .ok (.invokevirtual 68, 3) := @dq_o182 cX1_find 78 0 68 (qX1_find_4 14 182 rfl) (qX1_find_4 15 0 rfl) (qX1_find_5 0 68 rfl)
theorem dX1_find_81 : decode cX1_find 81 = .ok (.aload_n 0, 1) := @dq_o42 cX1_find 81 (qX1_find_5 1 42 rfl)
theorem dX1_find_82 : decode cX1_find 82 = .ok (.getfield 15, 3) := @dq_o180 cX1_find 82 0 15 (qX1_find_5 2 180 rfl) (qX1_find_5 3 0 rfl) (qX1_find_5 4 15 rfl)
theorem dX1_find_85 : decode cX1_find 85 = .ok (.iload_n 2, 1) := @dq_o28 cX1_find 85 (qX1_find_5 5 28 rfl)
theorem dX1_find_86 : decode cX1_find 86 = .ok (.aload_n 0, 1) := @dq_o42 cX1_find 86 (qX1_find_5 6 42 rfl)
theorem dX1_find_87 : decode cX1_find 87 = .ok (.getfield 26, 3) := @dq_o180 cX1_find 87 0 26 (qX1_find_5 7 180 rfl) (qX1_find_5 8 0 rfl) (qX1_find_5 9 26 rfl)
theorem dX1_find_90 : decode cX1_find 90 = .ok (.sipush 1000, 3) := @dq_o17 cX1_find 90 3 232 (qX1_find_5 10 17 rfl) (qX1_find_5 11 3 rfl) (qX1_find_5 12 232 rfl)
theorem dX1_find_93 : decode cX1_find 93 = .ok (.if_icmp .le 7, 3) := @dq_o164 cX1_find 93 0 7 (qX1_find_5 13 164 rfl) (qX1_find_5 14 0 rfl) (qX1_find_5 15 7 rfl)
theorem dX1_find_96 : decode cX1_find 96 = .ok (.iconst (-1), 1) := @dq_o2 cX1_find 96 (qX1_find_6 0 2 rfl)
theorem dX1_find_97 : decode cX1_find 97 = .ok (.goto 7, 3) := @dq_o167 cX1_find 97 0 7 (qX1_find_6 1 167 rfl) (qX1_find_6 2 0 rfl) (qX1_find_6 3 7 rfl)
theorem dX1_find_100 : decode cX1_find 100 = .ok (.aload_n 0, 1) := @dq_o42 cX1_find 100 (qX1_find_6 4 42 rfl)
theorem dX1_find_101 : decode cX1_find 101 = .ok (.getfield 26, 3) := @dq_o180 cX1_find 101 0 26 (qX1_find_6 5 180 rfl) (qX1_find_6 6 0 rfl) (qX1_find_6 7 26 rfl)
theorem dX1_find_104 : decode cX1_find 104 = .ok (.iastore, 1) := @dq_o79 cX1_find 104 (qX1_find_6 8 79 rfl)
theorem dX1_find_105 : decode cX1_find 105 = .ok (.iload_n 3, 1) := @dq_o29 cX1_find 105 (qX1_find_6 9 29 rfl)
theorem dX1_find_106 : decode cX1_find 106 = .ok (.istore_n 1, 1) := @dq_o60 cX1_find 106 (qX1_find_6 10 60 rfl)
theorem dX1_find_107 : decode cX1_find 107 = .ok (.iinc 2 1, 3) := @dq_o132 cX1_find 107 2 1 (qX1_find_6 11 132 rfl) (qX1_find_6 12 2 rfl) (qX1_find_6 13 1 rfl)
theorem dX1_find_110 : decode cX1_find 110 = .ok (.goto (-45), 3) := @dq_o167 cX1_find 110 255 211 (qX1_find_6 14 167 rfl) (qX1_find_6 15 255 rfl) (qX1_find_7 0 211 rfl)
theorem dX1_find_113 : decode cX1_find 113 = .ok (.return_, 1) := @dq_o177 cX1_find 113 (qX1_find_7 1 177 rfl)
abbrev qaX1_grow_0 : List Nat := [27, 62, 29, 28, 162, 0, 92, 42, 180, 0, 26, 17, 3, 232, 163, 0]
abbrev qaX1_grow_1 : List Nat := [82, 42, 180, 0, 19, 29, 16, 6, 104, 42, 180, 0, 29, 3, 16, 6]
abbrev qaX1_grow_2 : List Nat := [184, 0, 72, 3, 54, 4, 21, 4, 42, 180, 0, 38, 180, 0, 78, 180]
abbrev qaX1_grow_3 : List Nat := [0, 82, 162, 0, 40, 42, 180, 0, 38, 180, 0, 78, 180, 0, 85, 21]
abbrev qaX1_grow_4 : List Nat := [4, 46, 4, 160, 0, 23, 42, 21, 4, 4, 182, 0, 88, 42, 21, 4]
abbrev qaX1_grow_5 : List Nat := [2, 182, 0, 88, 132, 4, 1, 167, 255, 207, 132, 3, 1, 167, 255, 165]
abbrev qaX1_grow_6 : List Nat := [177]
def qtX1_grow_7 : List Nat := []
def qtX1_grow_6 : List Nat := qaX1_grow_6 ++ qtX1_grow_7
def qtX1_grow_5 : List Nat := qaX1_grow_5 ++ qtX1_grow_6
def qtX1_grow_4 : List Nat := qaX1_grow_4 ++ qtX1_grow_5
def qtX1_grow_3 : List Nat := qaX1_grow_3 ++ qtX1_grow_4
def qtX1_grow_2 : List Nat := qaX1_grow_2 ++ qtX1_grow_3
def qtX1_grow_1 : List Nat := qaX1_grow_1 ++ qtX1_grow_2
def qtX1_grow_0 : List Nat := qaX1_grow_0 ++ qtX1_grow_1
theorem qeX1_grow : cX1_grow.data.toList.map UInt8.toNat = qtX1_grow_0 := by decide +kernel
theorem qsX1_grow_0 : ∀ i, dqNth qtX1_grow_0 (0 + i) = dqNth qtX1_grow_0 i := fun i => by rw [Nat.zero_add]
theorem qsX1_grow_1 : ∀ i, dqNth qtX1_grow_0 (16 + i) = dqNth qtX1_grow_1 i := dq_step qsX1_grow_0 rfl rfl
theorem qsX1_grow_2 : ∀ i, dqNth qtX1_grow_0 (32 + i) = dqNth qtX1_grow_2 i := dq_step qsX1_grow_1 rfl rfl
theorem qsX1_grow_3 : ∀ i, dqNth qtX1_grow_0 (48 + i) = dqNth qtX1_grow_3 i := dq_step qsX1_grow_2 rfl rfl
theorem qsX1_grow_4 : ∀ i, dqNth qtX1_grow_0 (64 + i) = dqNth qtX1_grow_4 i := dq_step qsX1_grow_3 rfl rfl
theorem qsX1_grow_5 : ∀ i, dqNth qtX1_grow_0 (80 + i) = dqNth qtX1_grow_5 i := dq_step qsX1_grow_4 rfl rfl
theorem qsX1_grow_6 : ∀ i, dqNth qtX1_grow_0 (96 + i) = dqNth qtX1_grow_6 i := dq_step qsX1_grow_5 rfl rfl
theorem qX1_grow_0 (i b : Nat) (h : dqNth qaX1_grow_0 i = some b) : DqBy cX1_grow (0 + i) b := dqBy_of qeX1_grow ((qsX1_grow_0 i).trans (dq_in h))
theorem qX1_grow_1 (i b : Nat) (h : dqNth qaX1_grow_1 i = some b) : DqBy cX1_grow (16 + i) b := dqBy_of qeX1_grow ((qsX1_grow_1 i).trans (dq_in h))
theorem qX1_grow_2 (i b : Nat) (h : dqNth qaX1_grow_2 i = some b) : DqBy cX1_grow (32 + i) b := dqBy_of qeX1_grow ((qsX1_grow_2 i).trans (dq_in h))
theorem qX1_grow_3 (i b : Nat) (h : dqNth qaX1_grow_3 i = some b) : DqBy cX1_grow (48 + i) b := dqBy_of qeX1_grow ((qsX1_grow_3 i).trans (dq_in h))
theorem qX1_grow_4 (i b : Nat) (h : dqNth qaX1_grow_4 i = some b) : DqBy cX1_grow (64 + i) b := dqBy_of qeX1_grow ((qsX1_grow_4 i).trans (dq_in h))
theorem qX1_grow_5 (i b : Nat) (h : dqNth qaX1_grow_5 i = some b) : DqBy cX1_grow (80 + i) b := dqBy_of qeX1_grow ((qsX1_grow_5 i).trans (dq_in h))
theorem qX1_grow_6 (i b : Nat) (h : dqNth qaX1_grow_6 i = some b) : DqBy cX1_grow (96 + i) b := dqBy_of qeX1_grow ((qsX1_grow_6 i).trans (dq_in h))
theorem dX1_grow_0 : decode cX1_grow 0 = .ok (.iload_n 1, 1) := @dq_o27 cX1_grow 0 (qX1_grow_0 0 27 rfl)
theorem dX1_grow_1 : decode cX1_grow 1 = .ok (.istore_n 3, 1) := @dq_o62 cX1_grow 1 (qX1_grow_0 1 62 rfl)
theorem dX1_grow_2 : decode cX1_grow 2 = .ok (.iload_n 3, 1) := @dq_o29 cX1_grow 2 (qX1_grow_0 2 29 rfl)
theorem dX1_grow_3 : decode cX1_grow 3 = .ok (.iload_n 2, 1) := @dq_o28 cX1_grow 3 (qX1_grow_0 3 28 rfl)
theorem dX1_grow_4 : decode cX1_grow 4 = .ok (.if_icmp .ge 92, 3) := @dq_o162 cX1_grow 4 0 92 (qX1_grow_0 4 162 rfl) (qX1_grow_0 5 0 rfl) (qX1_grow_0 6 92 rfl)
theorem dX1_grow_7 : decode cX1_grow 7 = .ok (.aload_n 0, 1) := @dq_o42 cX1_grow 7 (qX1_grow_0 7 42 rfl)
theorem dX1_grow_8 : decode cX1_grow 8 = .ok (.getfield 26, 3) := @dq_o180 cX1_grow 8 0 26 (qX1_grow_0 8 180 rfl) (qX1_grow_0 9 0 rfl) (qX1_grow_0 10 26 rfl)
theorem dX1_grow_11 : decode cX1_grow 11 = .ok (.sipush 1000, 3) := @dq_o17 cX1_grow 11 3 232 (qX1_grow_0 11 17 rfl) (qX1_grow_0 12 3 rfl) (qX1_grow_0 13 232 rfl)
theorem dX1_grow_14 : decode cX1_grow 14 = .ok (.if_icmp .gt 82, 3) := @dq_o163 cX1_grow 14 0 82 (qX1_grow_0 14 163 rfl) (qX1_grow_0 15 0 rfl) (qX1_grow_1 0 82 rfl)
theorem dX1_grow_17 : decode cX1_grow 17 = .ok (.aload_n 0, 1) := @dq_o42 cX1_grow 17 (qX1_grow_1 1 42 rfl)
theorem dX1_grow_18 : decode cX1_grow 18 = .ok (.getfield 19, 3) := @dq_o180 cX1_grow 18 0 19 (qX1_grow_1 2 180 rfl) (qX1_grow_1 3 0 rfl) (qX1_grow_1 4 19 rfl)
theorem dX1_grow_21 : decode cX1_grow 21 = .ok (.iload_n 3, 1) := @dq_o29 cX1_grow 21 (qX1_grow_1 5 29 rfl)
theorem dX1_grow_22 : decode cX1_grow 22 = .ok (.bipush 6, 2) := @dq_o16 cX1_grow 22 6 (qX1_grow_1 6 16 rfl) (qX1_grow_1 7 6 rfl)
theorem dX1_grow_24 : decode cX1_grow 24 = .ok (.imul, 1) := @dq_o104 cX1_grow 24 (qX1_grow_1 8 104 rfl)
theorem dX1_grow_25 : decode cX1_grow 25 = .ok (.aload_n 0, 1) := @dq_o42 cX1_grow 25 (qX1_grow_1 9 42 rfl)
theorem dX1_grow_26 : decode cX1_grow 26 = .ok (.getfield 29, 3) := @dq_o180 cX1_grow 26 0 29 (qX1_grow_1 10 180 rfl) (qX1_grow_1 11 0 rfl) (qX1_grow_1 12 29 rfl)
theorem dX1_grow_29 : decode cX1_grow 29 = .ok (.iconst 0, 1) := @dq_o3 cX1_grow 29 (qX1_grow_1 13 3 rfl)
theorem dX1_grow_30 : decode cX1_grow 30 = .ok (.bipush 6, 2) := @dq_o16 cX1_grow 30 6 (qX1_grow_1 14 16 rfl) (qX1_grow_1 15 6 rfl)
theorem dX1_grow_32 : decode cX1_grow 32 = .ok (.invokestatic 72, 3) := @dq_o184 cX1_grow 32 0 72 (qX1_grow_2 0 184 rfl) (qX1_grow_2 1 0 rfl) (qX1_grow_2 2 72 rfl)
theorem dX1_grow_35 : decode cX1_grow 35 = .ok (.iconst 0, 1) := @dq_o3 cX1_grow 35 (qX1_grow_2 3 3 rfl)
theorem dX1_grow_36 : decode cX1_grow 36 = .ok (.istore 4, 2) := @dq_o54 cX1_grow 36 4 (qX1_grow_2 4 54 rfl) (qX1_grow_2 5 4 rfl)
theorem dX1_grow_38 : decode cX1_grow 38 = .ok (.iload 4, 2) := @dq_o21 cX1_grow 38 4 (qX1_grow_2 6 21 rfl) (qX1_grow_2 7 4 rfl)
theorem dX1_grow_40 : decode cX1_grow 40 = .ok (.aload_n 0, 1) := @dq_o42 cX1_grow 40 (qX1_grow_2 8 42 rfl)
theorem dX1_grow_41 : decode cX1_grow 41 = .ok (.getfield 38, 3) := @dq_o180 cX1_grow 41 0 38 (qX1_grow_2 9 180 rfl) (qX1_grow_2 10 0 rfl) (qX1_grow_2 11 38 rfl)
theorem dX1_grow_44 : decode cX1_grow 44 = .ok (.getfield 78, 3) := @dq_o180 cX1_grow 44 0 78 (qX1_grow_2 12 180 rfl) (qX1_grow_2 13 0 rfl) (qX1_grow_2 14 78 rfl)
theorem dX1_grow_47 : decode cX1_grow 47 = .ok (.getfield 82, 3) := @dq_o180 cX1_grow 47 0 82 (qX1_grow_2 15 180 rfl) (qX1_grow_3 0 0 rfl) (qX1_grow_3 1 82 rfl)
theorem dX1_grow_50 : decode cX1_grow 50 = .ok (.if_icmp .ge 40, 3) := @dq_o162 cX1_grow 50 0 40 (qX1_grow_3 2 162 rfl) (qX1_grow_3 3 0 rfl) (qX1_grow_3 4 40 rfl)
theorem dX1_grow_53 : decode cX1_grow 53 = .ok (.aload_n 0, 1) := @dq_o42 cX1_grow 53 (qX1_grow_3 5 42 rfl)
theorem dX1_grow_54 : decode cX1_grow 54 = .ok (.getfield 38, 3) := @dq_o180 cX1_grow 54 0 38 (qX1_grow_3 6 180 rfl) (qX1_grow_3 7 0 rfl) (qX1_grow_3 8 38 rfl)
theorem dX1_grow_57 : decode cX1_grow 57 = .ok (.getfield 78, 3) := @dq_o180 cX1_grow 57 0 78 (qX1_grow_3 9 180 rfl) (qX1_grow_3 10 0 rfl) (qX1_grow_3 11 78 rfl)
theorem dX1_grow_60 : decode cX1_grow 60 = .ok (.getfield 85, 3) := @dq_o180 cX1_grow 60 0 85 (qX1_grow_3 12 180 rfl) (qX1_grow_3 13 0 rfl) (qX1_grow_3 14 85 rfl)
theorem dX1_grow_63 : decode cX1_grow 63 = .ok (.iload 4, 2) := @dq_o21 cX1_grow 63 4 (qX1_grow_3 15 21 rfl) (qX1_grow_4 0 4 rfl)
theorem dX1_grow_65 : decode cX1_grow 65 = .ok (.iaload, 1) := @dq_o46 cX1_grow 65 (qX1_grow_4 1 46 rfl)
theorem dX1_grow_66 : decode cX1_grow 66 = .ok (.iconst 1, 1) := @dq_o4 cX1_grow 66 (qX1_grow_4 2 4 rfl)
theorem dX1_grow_67 : decode cX1_grow 67 = .ok (.if_icmp .ne 23, 3) := @dq_o160 cX1_grow 67 0 23 (qX1_grow_4 3 160 rfl) (qX1_grow_4 4 0 rfl) (qX1_grow_4 5 23 rfl)
theorem dX1_grow_70 : decode cX1_grow 70 = .ok (.aload_n 0, 1) := @dq_o42 cX1_grow 70 (qX1_grow_4 6 42 rfl)
theorem dX1_grow_71 : decode cX1_grow 71 = .ok (.iload 4, 2) := @dq_o21 cX1_grow 71 4 (qX1_grow_4 7 21 rfl) (qX1_grow_4 8 4 rfl)
theorem dX1_grow_73 : decode cX1_grow 73 = .ok (.iconst 1, 1) := @dq_o4 cX1_grow 73 (qX1_grow_4 9 4 rfl)
theorem dX1_grow_74 : decode cX1_grow 74 = .ok (.invokevirtual 88, 3) := @dq_o182 cX1_grow 74 0 88 (qX1_grow_4 10 182 rfl) (qX1_grow_4 11 0 rfl) (qX1_grow_4 12 88 rfl)
theorem dX1_grow_77 : decode cX1_grow 77 = .ok (.aload_n 0, 1) := @dq_o42 cX1_grow 77 (qX1_grow_4 13 42 rfl)
theorem dX1_grow_78 : decode cX1_grow 78 = .ok (.iload 4, 2) := @dq_o21 cX1_grow 78 4 (qX1_grow_4 14 21 rfl) (qX1_grow_4 15 4 rfl)
theorem dX1_grow_80 : decode cX1_grow 80 = .ok (.iconst (-1), 1) := @dq_o2 cX1_grow 80 (qX1_grow_5 0 2 rfl)
theorem dX1_grow_81 : decode cX1_grow 81 = .ok (.invokevirtual 88, 3) := @dq_o182 cX1_grow 81 0 88 (qX1_grow_5 1 182 rfl) (qX1_grow_5 2 0 rfl) (qX1_grow_5 3 88 rfl)
theorem dX1_grow_84 : decode cX1_grow 84 = .ok (.iinc 4 1, 3) := @dq_o132 cX1_grow 84 4 1 (qX1_grow_5 4 132 rfl) (qX1_grow_5 5 4 rfl) (qX1_grow_5 6 1 rfl)
theorem dX1_grow_87 : decode cX1_grow 87 = .ok (.goto (-49), 3) := @dq_o167 cX1_grow 87 255 207 (qX1_grow_5 7 167 rfl) (qX1_grow_5 8 255 rfl) (qX1_grow_5 9 207 rfl)
theorem dX1_grow_90 : decode cX1_grow 90 = .ok (.iinc 3 1, 3) := @dq_o132 cX1_grow 90 3 1 (qX1_grow_5 10 132 rfl) (qX1_grow_5 11 3 rfl) (qX1_grow_5 12 1 rfl)
theorem dX1_grow_93 : decode cX1_grow 93 = .ok (.goto (-91), 3) := @dq_o167 cX1_grow 93 255 165 (qX1_grow_5 13 167 rfl) (qX1_grow_5 14 255 rfl) (qX1_grow_5 15 165 rfl)
theorem dX1_grow_96 : decode cX1_grow 96 = .ok (.return_, 1) := @dq_o177 cX1_grow 96 (qX1_grow_6 0 177 rfl)
abbrev qaX1_growBy_0 : List Nat := [42, 180, 0, 32, 27, 28, 133, 184, 0, 91, 42, 180, 0, 42, 42, 180]
abbrev qaX1_growBy_1 : List Nat := [0, 35, 42, 180, 0, 29, 42, 180, 0, 32, 182, 0, 97, 42, 182, 0]
abbrev qaX1_growBy_2 : List Nat := [65, 177]
def qtX1_growBy_3 : List Nat := []
def qtX1_growBy_2 : List Nat := qaX1_growBy_2 ++ qtX1_growBy_3
def qtX1_growBy_1 : List Nat := qaX1_growBy_1 ++ qtX1_growBy_2
def qtX1_growBy_0 : List Nat := qaX1_growBy_0 ++ qtX1_growBy_1
theorem qeX1_growBy : cX1_growBy.data.toList.map UInt8.toNat = qtX1_growBy_0 := by decide +kernel
theorem qsX1_growBy_0 : ∀ i, dqNth qtX1_growBy_0 (0 + i) = dqNth qtX1_growBy_0 i := fun i => by rw [Nat.zero_add]
theorem qsX1_growBy_1 : ∀ i, dqNth qtX1_growBy_0 (16 + i) = dqNth qtX1_growBy_1 i := dq_step qsX1_growBy_0 rfl rfl
theorem qsX1_growBy_2 : ∀ i, dqNth qtX1_growBy_0 (32 + i) = dqNth qtX1_growBy_2 i := dq_step qsX1_growBy_1 rfl rfl
theorem qX1_growBy_0 (i b : Nat) (h : dqNth qaX1_growBy_0 i = some b) : DqBy cX1_growBy (0 + i) b := dqBy_of qeX1_growBy ((qsX1_growBy_0 i).trans (dq_in h))
theorem qX1_growBy_1 (i b : Nat) (h : dqNth qaX1_growBy_1 i = some b) : DqBy cX1_growBy (16 + i) b := dqBy_of qeX1_growBy ((qsX1_growBy_1 i).trans (dq_in h))
theorem qX1_growBy_2 (i b : Nat) (h : dqNth qaX1_growBy_2 i = some b) : DqBy cX1_growBy (32 + i) b := dqBy_of qeX1_growBy ((qsX1_growBy_2 i).trans (dq_in h))
theorem dX1_growBy_0 : decode cX1_growBy 0 = .ok (.aload_n 0, 1) := @dq_o42 cX1_growBy 0 (qX1_growBy_0 0 42 rfl)
theorem dX1_growBy_1 : decode cX1_growBy 1 = .ok (.getfield 32, 3) := @dq_o180 cX1_growBy 1 0 32 (qX1_growBy_0 1 180 rfl) (qX1_growBy_0 2 0 rfl) (qX1_growBy_0 3 32 rfl)
theorem dX1_growBy_4 : decode cX1_growBy 4 = .ok (.iload_n 1, 1) := @dq_o27 cX1_growBy 4 (qX1_growBy_0 4 27 rfl)
theorem dX1_growBy_5 : decode cX1_growBy 5 = .ok (.iload_n 2, 1) := @dq_o28 cX1_growBy 5 (qX1_growBy_0 5 28 rfl)
theorem dX1_growBy_6 : decode cX1_growBy 6 = .ok (.i2l, 1) := @dq_o133 cX1_growBy 6 (qX1_growBy_0 6 133 rfl)
theorem dX1_growBy_7 : decode cX1_growBy 7 = .ok (.invokestatic 91, 3) := @dq_o184 cX1_growBy 7 0 91 (qX1_growBy_0 7 184 rfl) (qX1_growBy_0 8 0 rfl) (qX1_growBy_0 9 91 rfl)
theorem dX1_growBy_10 : decode cX1_growBy 10 = .ok (.aload_n 0, 1) := @dq_o42 cX1_growBy 10 (qX1_growBy_0 10 42 rfl)
theorem dX1_growBy_11 : decode cX1_growBy 11 = .ok (.getfield 42, 3) := @dq_o180 cX1_growBy 11 0 42 (qX1_growBy_0 11 180 rfl) (qX1_growBy_0 12 0 rfl) (qX1_growBy_0 13 42 rfl)
theorem dX1_growBy_14 : decode cX1_growBy 14 = .ok (.aload_n 0, 1) := @dq_o42 cX1_growBy 14 (qX1_growBy_0 14 42 rfl)
theorem dX1_growBy_15 : decode cX1_growBy 15 = .ok (.getfield 35, 3) := @dq_o180 cX1_growBy 15 0 35 (qX1_growBy_0 15 180 rfl) (qX1_growBy_1 0 0 rfl) (qX1_growBy_1 1 35 rfl)
theorem dX1_growBy_18 : decode cX1_growBy 18 = .ok (.aload_n 0, 1) := @dq_o42 cX1_growBy 18 (qX1_growBy_1 2 42 rfl)
theorem dX1_growBy_19 : decode cX1_growBy 19 = .ok (.getfield 29, 3) := @dq_o180 cX1_growBy 19 0 29 (qX1_growBy_1 3 180 rfl) (qX1_growBy_1 4 0 rfl) (qX1_growBy_1 5 29 rfl)
theorem dX1_growBy_22 : decode cX1_growBy 22 = .ok (.aload_n 0, 1) := @dq_o42 cX1_growBy 22 (qX1_growBy_1 6 42 rfl)
theorem dX1_growBy_23 : decode cX1_growBy 23 = .ok (.getfield 32, 3) := @dq_o180 cX1_growBy 23 0 32 (qX1_growBy_1 7 180 rfl) (qX1_growBy_1 8 0 rfl) (qX1_growBy_1 9 32 rfl)
theorem dX1_growBy_26 : decode cX1_growBy 26 = .ok (.invokevirtual 97, 3) := @dq_o182 cX1_growBy 26 0 97 (qX1_growBy_1 10 182 rfl) (qX1_growBy_1 11 0 rfl) (qX1_growBy_1 12 97 rfl)
theorem dX1_growBy_29 : decode cX1_growBy 29 = .ok (.aload_n 0, 1) := @dq_o42 cX1_growBy 29 (qX1_growBy_1 13 42 rfl)
theorem dX1_growBy_30 : decode cX1_growBy 30 = .ok (.invokevirtual 65, 3) := @dq_o182 cX1_growBy 30 0 65 (qX1_growBy_1 14 182 rfl) (qX1_growBy_1 15 0 rfl) (qX1_growBy_2 0 65 rfl)
theorem dX1_growBy_33 : decode cX1_growBy 33 = .ok (.return_, 1) := @dq_o177 cX1_growBy 33 (qX1_growBy_2 1 177 rfl)
abbrev qaX1_keepMade_0 : List Nat := [42, 42, 180, 0, 35, 182, 0, 49, 60, 42, 180, 0, 23, 27, 46, 154]
abbrev qaX1_keepMade_1 : List Nat := [0, 54, 42, 180, 0, 26, 17, 3, 232, 163, 0, 44, 42, 180, 0, 35]
abbrev qaX1_keepMade_2 : List Nat := [3, 42, 180, 0, 19, 42, 180, 0, 26, 16, 6, 104, 16, 6, 184, 0]
abbrev qaX1_keepMade_3 : List Nat := [72, 42, 89, 180, 0, 26, 4, 96, 181, 0, 26, 42, 180, 0, 23, 27]
abbrev qaX1_keepMade_4 : List Nat := [42, 180, 0, 26, 79, 177]
def qtX1_keepMade_5 : List Nat := []
def qtX1_keepMade_4 : List Nat := qaX1_keepMade_4 ++ qtX1_keepMade_5
def qtX1_keepMade_3 : List Nat := qaX1_keepMade_3 ++ qtX1_keepMade_4
def qtX1_keepMade_2 : List Nat := qaX1_keepMade_2 ++ qtX1_keepMade_3
def qtX1_keepMade_1 : List Nat := qaX1_keepMade_1 ++ qtX1_keepMade_2
def qtX1_keepMade_0 : List Nat := qaX1_keepMade_0 ++ qtX1_keepMade_1
theorem qeX1_keepMade : cX1_keepMade.data.toList.map UInt8.toNat = qtX1_keepMade_0 := by decide +kernel
theorem qsX1_keepMade_0 : ∀ i, dqNth qtX1_keepMade_0 (0 + i) = dqNth qtX1_keepMade_0 i := fun i => by rw [Nat.zero_add]
theorem qsX1_keepMade_1 : ∀ i, dqNth qtX1_keepMade_0 (16 + i) = dqNth qtX1_keepMade_1 i := dq_step qsX1_keepMade_0 rfl rfl
theorem qsX1_keepMade_2 : ∀ i, dqNth qtX1_keepMade_0 (32 + i) = dqNth qtX1_keepMade_2 i := dq_step qsX1_keepMade_1 rfl rfl
theorem qsX1_keepMade_3 : ∀ i, dqNth qtX1_keepMade_0 (48 + i) = dqNth qtX1_keepMade_3 i := dq_step qsX1_keepMade_2 rfl rfl
theorem qsX1_keepMade_4 : ∀ i, dqNth qtX1_keepMade_0 (64 + i) = dqNth qtX1_keepMade_4 i := dq_step qsX1_keepMade_3 rfl rfl
theorem qX1_keepMade_0 (i b : Nat) (h : dqNth qaX1_keepMade_0 i = some b) : DqBy cX1_keepMade (0 + i) b := dqBy_of qeX1_keepMade ((qsX1_keepMade_0 i).trans (dq_in h))
theorem qX1_keepMade_1 (i b : Nat) (h : dqNth qaX1_keepMade_1 i = some b) : DqBy cX1_keepMade (16 + i) b := dqBy_of qeX1_keepMade ((qsX1_keepMade_1 i).trans (dq_in h))
theorem qX1_keepMade_2 (i b : Nat) (h : dqNth qaX1_keepMade_2 i = some b) : DqBy cX1_keepMade (32 + i) b := dqBy_of qeX1_keepMade ((qsX1_keepMade_2 i).trans (dq_in h))
theorem qX1_keepMade_3 (i b : Nat) (h : dqNth qaX1_keepMade_3 i = some b) : DqBy cX1_keepMade (48 + i) b := dqBy_of qeX1_keepMade ((qsX1_keepMade_3 i).trans (dq_in h))
theorem qX1_keepMade_4 (i b : Nat) (h : dqNth qaX1_keepMade_4 i = some b) : DqBy cX1_keepMade (64 + i) b := dqBy_of qeX1_keepMade ((qsX1_keepMade_4 i).trans (dq_in h))
theorem dX1_keepMade_0 : decode cX1_keepMade 0 = .ok (.aload_n 0, 1) := @dq_o42 cX1_keepMade 0 (qX1_keepMade_0 0 42 rfl)
theorem dX1_keepMade_1 : decode cX1_keepMade 1 = .ok (.aload_n 0, 1) := @dq_o42 cX1_keepMade 1 (qX1_keepMade_0 1 42 rfl)
theorem dX1_keepMade_2 : decode cX1_keepMade 2 = .ok (.getfield 35, 3) := @dq_o180 cX1_keepMade 2 0 35 (qX1_keepMade_0 2 180 rfl) (qX1_keepMade_0 3 0 rfl) (qX1_keepMade_0 4 35 rfl)
theorem dX1_keepMade_5 : decode cX1_keepMade 5 = .ok (.invokevirtual 49, 3) := @dq_o182 cX1_keepMade 5 0 49 (qX1_keepMade_0 5 182 rfl) (qX1_keepMade_0 6 0 rfl) (qX1_keepMade_0 7 49 rfl)
theorem dX1_keepMade_8 : decode cX1_keepMade 8 = .ok (.istore_n 1, 1) := @dq_o60 cX1_keepMade 8 (qX1_keepMade_0 8 60 rfl)
theorem dX1_keepMade_9 : decode cX1_keepMade 9 = .ok (.aload_n 0, 1) := @dq_o42 cX1_keepMade 9 (qX1_keepMade_0 9 42 rfl)
theorem dX1_keepMade_10 : decode cX1_keepMade 10 = .ok (.getfield 23, 3) := @dq_o180 cX1_keepMade 10 0 23 (qX1_keepMade_0 10 180 rfl) (qX1_keepMade_0 11 0 rfl) (qX1_keepMade_0 12 23 rfl)
theorem dX1_keepMade_13 : decode cX1_keepMade 13 = .ok (.iload_n 1, 1) := @dq_o27 cX1_keepMade 13 (qX1_keepMade_0 13 27 rfl)
theorem dX1_keepMade_14 : decode cX1_keepMade 14 = .ok (.iaload, 1) := @dq_o46 cX1_keepMade 14 (qX1_keepMade_0 14 46 rfl)
theorem dX1_keepMade_15 : decode cX1_keepMade 15 = .ok (.ifCond .ne 54, 3) := @dq_o154 cX1_keepMade 15 0 54 (qX1_keepMade_0 15 154 rfl) (qX1_keepMade_1 0 0 rfl) (qX1_keepMade_1 1 54 rfl)
theorem dX1_keepMade_18 : decode cX1_keepMade 18 = .ok (.aload_n 0, 1) := @dq_o42 cX1_keepMade 18 (qX1_keepMade_1 2 42 rfl)
theorem dX1_keepMade_19 : decode cX1_keepMade 19 = .ok (.getfield 26, 3) := @dq_o180 cX1_keepMade 19 0 26 (qX1_keepMade_1 3 180 rfl) (qX1_keepMade_1 4 0 rfl) (qX1_keepMade_1 5 26 rfl)
theorem dX1_keepMade_22 : decode cX1_keepMade 22 = .ok (.sipush 1000, 3) := @dq_o17 cX1_keepMade 22 3 232 (qX1_keepMade_1 6 17 rfl) (qX1_keepMade_1 7 3 rfl) (qX1_keepMade_1 8 232 rfl)
theorem dX1_keepMade_25 : decode cX1_keepMade 25 = .ok (.if_icmp .gt 44, 3) := @dq_o163 cX1_keepMade 25 0 44 (qX1_keepMade_1 9 163 rfl) (qX1_keepMade_1 10 0 rfl) (qX1_keepMade_1 11 44 rfl)
theorem dX1_keepMade_28 : decode cX1_keepMade 28 = .ok (.aload_n 0, 1) := @dq_o42 cX1_keepMade 28 (qX1_keepMade_1 12 42 rfl)
theorem dX1_keepMade_29 : decode cX1_keepMade 29 = .ok (.getfield 35, 3) := @dq_o180 cX1_keepMade 29 0 35 (qX1_keepMade_1 13 180 rfl) (qX1_keepMade_1 14 0 rfl) (qX1_keepMade_1 15 35 rfl)
theorem dX1_keepMade_32 : decode cX1_keepMade 32 = .ok (.iconst 0, 1) := @dq_o3 cX1_keepMade 32 (qX1_keepMade_2 0 3 rfl)
theorem dX1_keepMade_33 : decode cX1_keepMade 33 = .ok (.aload_n 0, 1) := @dq_o42 cX1_keepMade 33 (qX1_keepMade_2 1 42 rfl)
theorem dX1_keepMade_34 : decode cX1_keepMade 34 = .ok (.getfield 19, 3) := @dq_o180 cX1_keepMade 34 0 19 (qX1_keepMade_2 2 180 rfl) (qX1_keepMade_2 3 0 rfl) (qX1_keepMade_2 4 19 rfl)
theorem dX1_keepMade_37 : decode cX1_keepMade 37 = .ok (.aload_n 0, 1) := @dq_o42 cX1_keepMade 37 (qX1_keepMade_2 5 42 rfl)
theorem dX1_keepMade_38 : decode cX1_keepMade 38 = .ok (.getfield 26, 3) := @dq_o180 cX1_keepMade 38 0 26 (qX1_keepMade_2 6 180 rfl) (qX1_keepMade_2 7 0 rfl) (qX1_keepMade_2 8 26 rfl)
theorem dX1_keepMade_41 : decode cX1_keepMade 41 = .ok (.bipush 6, 2) := @dq_o16 cX1_keepMade 41 6 (qX1_keepMade_2 9 16 rfl) (qX1_keepMade_2 10 6 rfl)
theorem dX1_keepMade_43 : decode cX1_keepMade 43 = .ok (.imul, 1) := @dq_o104 cX1_keepMade 43 (qX1_keepMade_2 11 104 rfl)
theorem dX1_keepMade_44 : decode cX1_keepMade 44 = .ok (.bipush 6, 2) := @dq_o16 cX1_keepMade 44 6 (qX1_keepMade_2 12 16 rfl) (qX1_keepMade_2 13 6 rfl)
theorem dX1_keepMade_46 : decode cX1_keepMade 46 = .ok (.invokestatic 72, 3) := @dq_o184 cX1_keepMade 46 0 72 (qX1_keepMade_2 14 184 rfl) (qX1_keepMade_2 15 0 rfl) (qX1_keepMade_3 0 72 rfl)
theorem dX1_keepMade_49 : decode cX1_keepMade 49 = .ok (.aload_n 0, 1) := @dq_o42 cX1_keepMade 49 (qX1_keepMade_3 1 42 rfl)
theorem dX1_keepMade_50 : decode cX1_keepMade 50 = .ok (.dup, 1) := @dq_o89 cX1_keepMade 50 (qX1_keepMade_3 2 89 rfl)
theorem dX1_keepMade_51 : decode cX1_keepMade 51 = .ok (.getfield 26, 3) := @dq_o180 cX1_keepMade 51 0 26 (qX1_keepMade_3 3 180 rfl) (qX1_keepMade_3 4 0 rfl) (qX1_keepMade_3 5 26 rfl)
theorem dX1_keepMade_54 : decode cX1_keepMade 54 = .ok (.iconst 1, 1) := @dq_o4 cX1_keepMade 54 (qX1_keepMade_3 6 4 rfl)
theorem dX1_keepMade_55 : decode cX1_keepMade 55 = .ok (.iadd, 1) := @dq_o96 cX1_keepMade 55 (qX1_keepMade_3 7 96 rfl)
theorem dX1_keepMade_56 : decode cX1_keepMade 56 = .ok (.putfield 26, 3) := @dq_o181 cX1_keepMade 56 0 26 (qX1_keepMade_3 8 181 rfl) (qX1_keepMade_3 9 0 rfl) (qX1_keepMade_3 10 26 rfl)
theorem dX1_keepMade_59 : decode cX1_keepMade 59 = .ok (.aload_n 0, 1) := @dq_o42 cX1_keepMade 59 (qX1_keepMade_3 11 42 rfl)
theorem dX1_keepMade_60 : decode cX1_keepMade 60 = .ok (.getfield 23, 3) := @dq_o180 cX1_keepMade 60 0 23 (qX1_keepMade_3 12 180 rfl) (qX1_keepMade_3 13 0 rfl) (qX1_keepMade_3 14 23 rfl)
theorem dX1_keepMade_63 : decode cX1_keepMade 63 = .ok (.iload_n 1, 1) := @dq_o27 cX1_keepMade 63 (qX1_keepMade_3 15 27 rfl)
theorem dX1_keepMade_64 : decode cX1_keepMade 64 = .ok (.aload_n 0, 1) := @dq_o42 cX1_keepMade 64 (qX1_keepMade_4 0 42 rfl)
theorem dX1_keepMade_65 : decode cX1_keepMade 65 = .ok (.getfield 26, 3) := @dq_o180 cX1_keepMade 65 0 26 (qX1_keepMade_4 1 180 rfl) (qX1_keepMade_4 2 0 rfl) (qX1_keepMade_4 3 26 rfl)
theorem dX1_keepMade_68 : decode cX1_keepMade 68 = .ok (.iastore, 1) := @dq_o79 cX1_keepMade 68 (qX1_keepMade_4 4 79 rfl)
theorem dX1_keepMade_69 : decode cX1_keepMade 69 = .ok (.return_, 1) := @dq_o177 cX1_keepMade 69 (qX1_keepMade_4 5 177 rfl)
abbrev qaX1_slotOf_0 : List Nat := [9, 65, 3, 54, 4, 21, 4, 16, 6, 162, 0, 20, 32, 20, 0, 101]
abbrev qaX1_slotOf_1 : List Nat := [105, 43, 21, 4, 47, 97, 65, 132, 4, 1, 167, 255, 235, 32, 136, 17]
abbrev qaX1_slotOf_2 : List Nat := [15, 255, 126, 54, 4, 3, 54, 5, 21, 5, 17, 16, 0, 162, 0, 46]
abbrev qaX1_slotOf_3 : List Nat := [42, 180, 0, 23, 21, 4, 46, 153, 0, 36, 42, 42, 180, 0, 23, 21]
abbrev qaX1_slotOf_4 : List Nat := [4, 46, 4, 100, 43, 182, 0, 103, 154, 0, 19, 21, 4, 4, 96, 17]
abbrev qaX1_slotOf_5 : List Nat := [15, 255, 126, 54, 4, 132, 5, 1, 167, 255, 208, 21, 4, 172]
def qtX1_slotOf_6 : List Nat := []
def qtX1_slotOf_5 : List Nat := qaX1_slotOf_5 ++ qtX1_slotOf_6
def qtX1_slotOf_4 : List Nat := qaX1_slotOf_4 ++ qtX1_slotOf_5
def qtX1_slotOf_3 : List Nat := qaX1_slotOf_3 ++ qtX1_slotOf_4
def qtX1_slotOf_2 : List Nat := qaX1_slotOf_2 ++ qtX1_slotOf_3
def qtX1_slotOf_1 : List Nat := qaX1_slotOf_1 ++ qtX1_slotOf_2
def qtX1_slotOf_0 : List Nat := qaX1_slotOf_0 ++ qtX1_slotOf_1
theorem qeX1_slotOf : cX1_slotOf.data.toList.map UInt8.toNat = qtX1_slotOf_0 := by decide +kernel
theorem qsX1_slotOf_0 : ∀ i, dqNth qtX1_slotOf_0 (0 + i) = dqNth qtX1_slotOf_0 i := fun i => by rw [Nat.zero_add]
theorem qsX1_slotOf_1 : ∀ i, dqNth qtX1_slotOf_0 (16 + i) = dqNth qtX1_slotOf_1 i := dq_step qsX1_slotOf_0 rfl rfl
theorem qsX1_slotOf_2 : ∀ i, dqNth qtX1_slotOf_0 (32 + i) = dqNth qtX1_slotOf_2 i := dq_step qsX1_slotOf_1 rfl rfl
theorem qsX1_slotOf_3 : ∀ i, dqNth qtX1_slotOf_0 (48 + i) = dqNth qtX1_slotOf_3 i := dq_step qsX1_slotOf_2 rfl rfl
theorem qsX1_slotOf_4 : ∀ i, dqNth qtX1_slotOf_0 (64 + i) = dqNth qtX1_slotOf_4 i := dq_step qsX1_slotOf_3 rfl rfl
theorem qsX1_slotOf_5 : ∀ i, dqNth qtX1_slotOf_0 (80 + i) = dqNth qtX1_slotOf_5 i := dq_step qsX1_slotOf_4 rfl rfl
theorem qX1_slotOf_0 (i b : Nat) (h : dqNth qaX1_slotOf_0 i = some b) : DqBy cX1_slotOf (0 + i) b := dqBy_of qeX1_slotOf ((qsX1_slotOf_0 i).trans (dq_in h))
theorem qX1_slotOf_1 (i b : Nat) (h : dqNth qaX1_slotOf_1 i = some b) : DqBy cX1_slotOf (16 + i) b := dqBy_of qeX1_slotOf ((qsX1_slotOf_1 i).trans (dq_in h))
theorem qX1_slotOf_2 (i b : Nat) (h : dqNth qaX1_slotOf_2 i = some b) : DqBy cX1_slotOf (32 + i) b := dqBy_of qeX1_slotOf ((qsX1_slotOf_2 i).trans (dq_in h))
theorem qX1_slotOf_3 (i b : Nat) (h : dqNth qaX1_slotOf_3 i = some b) : DqBy cX1_slotOf (48 + i) b := dqBy_of qeX1_slotOf ((qsX1_slotOf_3 i).trans (dq_in h))
theorem qX1_slotOf_4 (i b : Nat) (h : dqNth qaX1_slotOf_4 i = some b) : DqBy cX1_slotOf (64 + i) b := dqBy_of qeX1_slotOf ((qsX1_slotOf_4 i).trans (dq_in h))
theorem qX1_slotOf_5 (i b : Nat) (h : dqNth qaX1_slotOf_5 i = some b) : DqBy cX1_slotOf (80 + i) b := dqBy_of qeX1_slotOf ((qsX1_slotOf_5 i).trans (dq_in h))
theorem dX1_slotOf_0 : decode cX1_slotOf 0 = .ok (.lconst 0, 1) := @dq_o9 cX1_slotOf 0 (qX1_slotOf_0 0 9 rfl)
theorem dX1_slotOf_1 : decode cX1_slotOf 1 = .ok (.lstore_n 2, 1) := @dq_o65 cX1_slotOf 1 (qX1_slotOf_0 1 65 rfl)
theorem dX1_slotOf_2 : decode cX1_slotOf 2 = .ok (.iconst 0, 1) := @dq_o3 cX1_slotOf 2 (qX1_slotOf_0 2 3 rfl)
theorem dX1_slotOf_3 : decode cX1_slotOf 3 = .ok (.istore 4, 2) := @dq_o54 cX1_slotOf 3 4 (qX1_slotOf_0 3 54 rfl) (qX1_slotOf_0 4 4 rfl)
theorem dX1_slotOf_5 : decode cX1_slotOf 5 = .ok (.iload 4, 2) := @dq_o21 cX1_slotOf 5 4 (qX1_slotOf_0 5 21 rfl) (qX1_slotOf_0 6 4 rfl)
theorem dX1_slotOf_7 : decode cX1_slotOf 7 = .ok (.bipush 6, 2) := @dq_o16 cX1_slotOf 7 6 (qX1_slotOf_0 7 16 rfl) (qX1_slotOf_0 8 6 rfl)
theorem dX1_slotOf_9 : decode cX1_slotOf 9 = .ok (.if_icmp .ge 20, 3) := @dq_o162 cX1_slotOf 9 0 20 (qX1_slotOf_0 9 162 rfl) (qX1_slotOf_0 10 0 rfl) (qX1_slotOf_0 11 20 rfl)
theorem dX1_slotOf_12 : decode cX1_slotOf 12 = .ok (.lload_n 2, 1) := @dq_o32 cX1_slotOf 12 (qX1_slotOf_0 12 32 rfl)
theorem dX1_slotOf_13 : decode cX1_slotOf 13 = .ok (.ldc2_w 101, 3) := @dq_o20 cX1_slotOf 13 0 101 (qX1_slotOf_0 13 20 rfl) (qX1_slotOf_0 14 0 rfl) (qX1_slotOf_0 15 101 rfl)
theorem dX1_slotOf_16 : decode cX1_slotOf 16 = .ok (.lmul, 1) := @dq_o105 cX1_slotOf 16 (qX1_slotOf_1 0 105 rfl)
theorem dX1_slotOf_17 : decode cX1_slotOf 17 = .ok (.aload_n 1, 1) := @dq_o43 cX1_slotOf 17 (qX1_slotOf_1 1 43 rfl)
theorem dX1_slotOf_18 : decode cX1_slotOf 18 = .ok (.iload 4, 2) := @dq_o21 cX1_slotOf 18 4 (qX1_slotOf_1 2 21 rfl) (qX1_slotOf_1 3 4 rfl)
theorem dX1_slotOf_20 : decode cX1_slotOf 20 = .ok (.laload, 1) := @dq_o47 cX1_slotOf 20 (qX1_slotOf_1 4 47 rfl)
theorem dX1_slotOf_21 : decode cX1_slotOf 21 = .ok (.ladd, 1) := @dq_o97 cX1_slotOf 21 (qX1_slotOf_1 5 97 rfl)
theorem dX1_slotOf_22 : decode cX1_slotOf 22 = .ok (.lstore_n 2, 1) := @dq_o65 cX1_slotOf 22 (qX1_slotOf_1 6 65 rfl)
theorem dX1_slotOf_23 : decode cX1_slotOf 23 = .ok (.iinc 4 1, 3) := @dq_o132 cX1_slotOf 23 4 1 (qX1_slotOf_1 7 132 rfl) (qX1_slotOf_1 8 4 rfl) (qX1_slotOf_1 9 1 rfl)
theorem dX1_slotOf_26 : decode cX1_slotOf 26 = .ok (.goto (-21), 3) := @dq_o167 cX1_slotOf 26 255 235 (qX1_slotOf_1 10 167 rfl) (qX1_slotOf_1 11 255 rfl) (qX1_slotOf_1 12 235 rfl)
theorem dX1_slotOf_29 : decode cX1_slotOf 29 = .ok (.lload_n 2, 1) := @dq_o32 cX1_slotOf 29 (qX1_slotOf_1 13 32 rfl)
theorem dX1_slotOf_30 : decode cX1_slotOf 30 = .ok (.l2i, 1) := @dq_o136 cX1_slotOf 30 (qX1_slotOf_1 14 136 rfl)
theorem dX1_slotOf_31 : decode cX1_slotOf 31 = .ok (.sipush 4095, 3) := @dq_o17 cX1_slotOf 31 15 255 (qX1_slotOf_1 15 17 rfl) (qX1_slotOf_2 0 15 rfl) (qX1_slotOf_2 1 255 rfl)
theorem dX1_slotOf_34 : decode cX1_slotOf 34 = .ok (.iand, 1) := @dq_o126 cX1_slotOf 34 (qX1_slotOf_2 2 126 rfl)
theorem dX1_slotOf_35 : decode cX1_slotOf 35 = .ok (.istore 4, 2) := @dq_o54 cX1_slotOf 35 4 (qX1_slotOf_2 3 54 rfl) (qX1_slotOf_2 4 4 rfl)
theorem dX1_slotOf_37 : decode cX1_slotOf 37 = .ok (.iconst 0, 1) := @dq_o3 cX1_slotOf 37 (qX1_slotOf_2 5 3 rfl)
theorem dX1_slotOf_38 : decode cX1_slotOf 38 = .ok (.istore 5, 2) := @dq_o54 cX1_slotOf 38 5 (qX1_slotOf_2 6 54 rfl) (qX1_slotOf_2 7 5 rfl)
theorem dX1_slotOf_40 : decode cX1_slotOf 40 = .ok (.iload 5, 2) := @dq_o21 cX1_slotOf 40 5 (qX1_slotOf_2 8 21 rfl) (qX1_slotOf_2 9 5 rfl)
theorem dX1_slotOf_42 : decode cX1_slotOf 42 = .ok (.sipush 4096, 3) := @dq_o17 cX1_slotOf 42 16 0 (qX1_slotOf_2 10 17 rfl) (qX1_slotOf_2 11 16 rfl) (qX1_slotOf_2 12 0 rfl)
theorem dX1_slotOf_45 : decode cX1_slotOf 45 = .ok (.if_icmp .ge 46, 3) := @dq_o162 cX1_slotOf 45 0 46 (qX1_slotOf_2 13 162 rfl) (qX1_slotOf_2 14 0 rfl) (qX1_slotOf_2 15 46 rfl)
theorem dX1_slotOf_48 : decode cX1_slotOf 48 = .ok (.aload_n 0, 1) := @dq_o42 cX1_slotOf 48 (qX1_slotOf_3 0 42 rfl)
theorem dX1_slotOf_49 : decode cX1_slotOf 49 = .ok (.getfield 23, 3) := @dq_o180 cX1_slotOf 49 0 23 (qX1_slotOf_3 1 180 rfl) (qX1_slotOf_3 2 0 rfl) (qX1_slotOf_3 3 23 rfl)
theorem dX1_slotOf_52 : decode cX1_slotOf 52 = .ok (.iload 4, 2) := @dq_o21 cX1_slotOf 52 4 (qX1_slotOf_3 4 21 rfl) (qX1_slotOf_3 5 4 rfl)
theorem dX1_slotOf_54 : decode cX1_slotOf 54 = .ok (.iaload, 1) := @dq_o46 cX1_slotOf 54 (qX1_slotOf_3 6 46 rfl)
theorem dX1_slotOf_55 : decode cX1_slotOf 55 = .ok (.ifCond .eq 36, 3) := @dq_o153 cX1_slotOf 55 0 36 (qX1_slotOf_3 7 153 rfl) (qX1_slotOf_3 8 0 rfl) (qX1_slotOf_3 9 36 rfl)
theorem dX1_slotOf_58 : decode cX1_slotOf 58 = .ok (.aload_n 0, 1) := @dq_o42 cX1_slotOf 58 (qX1_slotOf_3 10 42 rfl)
theorem dX1_slotOf_59 : decode cX1_slotOf 59 = .ok (.aload_n 0, 1) := @dq_o42 cX1_slotOf 59 (qX1_slotOf_3 11 42 rfl)
theorem dX1_slotOf_60 : decode cX1_slotOf 60 = .ok (.getfield 23, 3) := @dq_o180 cX1_slotOf 60 0 23 (qX1_slotOf_3 12 180 rfl) (qX1_slotOf_3 13 0 rfl) (qX1_slotOf_3 14 23 rfl)
theorem dX1_slotOf_63 : decode cX1_slotOf 63 = .ok (.iload 4, 2) := @dq_o21 cX1_slotOf 63 4 (qX1_slotOf_3 15 21 rfl) (qX1_slotOf_4 0 4 rfl)
theorem dX1_slotOf_65 : decode cX1_slotOf 65 = .ok (.iaload, 1) := @dq_o46 cX1_slotOf 65 (qX1_slotOf_4 1 46 rfl)
theorem dX1_slotOf_66 : decode cX1_slotOf 66 = .ok (.iconst 1, 1) := @dq_o4 cX1_slotOf 66 (qX1_slotOf_4 2 4 rfl)
theorem dX1_slotOf_67 : decode cX1_slotOf 67 = .ok (.isub, 1) := @dq_o100 cX1_slotOf 67 (qX1_slotOf_4 3 100 rfl)
theorem dX1_slotOf_68 : decode cX1_slotOf 68 = .ok (.aload_n 1, 1) := @dq_o43 cX1_slotOf 68 (qX1_slotOf_4 4 43 rfl)
theorem dX1_slotOf_69 : decode cX1_slotOf 69 = .ok (.invokevirtual 103, 3) := @dq_o182 cX1_slotOf 69 0 103 (qX1_slotOf_4 5 182 rfl) (qX1_slotOf_4 6 0 rfl) (qX1_slotOf_4 7 103 rfl)
theorem dX1_slotOf_72 : decode cX1_slotOf 72 = .ok (.ifCond .ne 19, 3) := @dq_o154 cX1_slotOf 72 0 19 (qX1_slotOf_4 8 154 rfl) (qX1_slotOf_4 9 0 rfl) (qX1_slotOf_4 10 19 rfl)
theorem dX1_slotOf_75 : decode cX1_slotOf 75 = .ok (.iload 4, 2) := @dq_o21 cX1_slotOf 75 4 (qX1_slotOf_4 11 21 rfl) (qX1_slotOf_4 12 4 rfl)
theorem dX1_slotOf_77 : decode cX1_slotOf 77 = .ok (.iconst 1, 1) := @dq_o4 cX1_slotOf 77 (qX1_slotOf_4 13 4 rfl)
theorem dX1_slotOf_78 : decode cX1_slotOf 78 = .ok (.iadd, 1) := @dq_o96 cX1_slotOf 78 (qX1_slotOf_4 14 96 rfl)
theorem dX1_slotOf_79 : decode cX1_slotOf 79 = .ok (.sipush 4095, 3) := @dq_o17 cX1_slotOf 79 15 255 (qX1_slotOf_4 15 17 rfl) (qX1_slotOf_5 0 15 rfl) (qX1_slotOf_5 1 255 rfl)
theorem dX1_slotOf_82 : decode cX1_slotOf 82 = .ok (.iand, 1) := @dq_o126 cX1_slotOf 82 (qX1_slotOf_5 2 126 rfl)
theorem dX1_slotOf_83 : decode cX1_slotOf 83 = .ok (.istore 4, 2) := @dq_o54 cX1_slotOf 83 4 (qX1_slotOf_5 3 54 rfl) (qX1_slotOf_5 4 4 rfl)
theorem dX1_slotOf_85 : decode cX1_slotOf 85 = .ok (.iinc 5 1, 3) := @dq_o132 cX1_slotOf 85 5 1 (qX1_slotOf_5 5 132 rfl) (qX1_slotOf_5 6 5 rfl) (qX1_slotOf_5 7 1 rfl)
theorem dX1_slotOf_88 : decode cX1_slotOf 88 = .ok (.goto (-48), 3) := @dq_o167 cX1_slotOf 88 255 208 (qX1_slotOf_5 8 167 rfl) (qX1_slotOf_5 9 255 rfl) (qX1_slotOf_5 10 208 rfl)
theorem dX1_slotOf_91 : decode cX1_slotOf 91 = .ok (.iload 4, 2) := @dq_o21 cX1_slotOf 91 4 (qX1_slotOf_5 11 21 rfl) (qX1_slotOf_5 12 4 rfl)
theorem dX1_slotOf_93 : decode cX1_slotOf 93 = .ok (.ireturn, 1) := @dq_o172 cX1_slotOf 93 (qX1_slotOf_5 13 172 rfl)
abbrev qaX1_isAt_0 : List Nat := [3, 62, 29, 16, 6, 162, 0, 29, 42, 180, 0, 19, 27, 16, 6, 104]
abbrev qaX1_isAt_1 : List Nat := [29, 96, 47, 44, 29, 47, 148, 153, 0, 5, 3, 172, 132, 3, 1, 167]
abbrev qaX1_isAt_2 : List Nat := [255, 227, 4, 172]
def qtX1_isAt_3 : List Nat := []
def qtX1_isAt_2 : List Nat := qaX1_isAt_2 ++ qtX1_isAt_3
def qtX1_isAt_1 : List Nat := qaX1_isAt_1 ++ qtX1_isAt_2
def qtX1_isAt_0 : List Nat := qaX1_isAt_0 ++ qtX1_isAt_1
theorem qeX1_isAt : cX1_isAt.data.toList.map UInt8.toNat = qtX1_isAt_0 := by decide +kernel
theorem qsX1_isAt_0 : ∀ i, dqNth qtX1_isAt_0 (0 + i) = dqNth qtX1_isAt_0 i := fun i => by rw [Nat.zero_add]
theorem qsX1_isAt_1 : ∀ i, dqNth qtX1_isAt_0 (16 + i) = dqNth qtX1_isAt_1 i := dq_step qsX1_isAt_0 rfl rfl
theorem qsX1_isAt_2 : ∀ i, dqNth qtX1_isAt_0 (32 + i) = dqNth qtX1_isAt_2 i := dq_step qsX1_isAt_1 rfl rfl
theorem qX1_isAt_0 (i b : Nat) (h : dqNth qaX1_isAt_0 i = some b) : DqBy cX1_isAt (0 + i) b := dqBy_of qeX1_isAt ((qsX1_isAt_0 i).trans (dq_in h))
theorem qX1_isAt_1 (i b : Nat) (h : dqNth qaX1_isAt_1 i = some b) : DqBy cX1_isAt (16 + i) b := dqBy_of qeX1_isAt ((qsX1_isAt_1 i).trans (dq_in h))
theorem qX1_isAt_2 (i b : Nat) (h : dqNth qaX1_isAt_2 i = some b) : DqBy cX1_isAt (32 + i) b := dqBy_of qeX1_isAt ((qsX1_isAt_2 i).trans (dq_in h))
theorem dX1_isAt_0 : decode cX1_isAt 0 = .ok (.iconst 0, 1) := @dq_o3 cX1_isAt 0 (qX1_isAt_0 0 3 rfl)
theorem dX1_isAt_1 : decode cX1_isAt 1 = .ok (.istore_n 3, 1) := @dq_o62 cX1_isAt 1 (qX1_isAt_0 1 62 rfl)
theorem dX1_isAt_2 : decode cX1_isAt 2 = .ok (.iload_n 3, 1) := @dq_o29 cX1_isAt 2 (qX1_isAt_0 2 29 rfl)
theorem dX1_isAt_3 : decode cX1_isAt 3 = .ok (.bipush 6, 2) := @dq_o16 cX1_isAt 3 6 (qX1_isAt_0 3 16 rfl) (qX1_isAt_0 4 6 rfl)
theorem dX1_isAt_5 : decode cX1_isAt 5 = .ok (.if_icmp .ge 29, 3) := @dq_o162 cX1_isAt 5 0 29 (qX1_isAt_0 5 162 rfl) (qX1_isAt_0 6 0 rfl) (qX1_isAt_0 7 29 rfl)
theorem dX1_isAt_8 : decode cX1_isAt 8 = .ok (.aload_n 0, 1) := @dq_o42 cX1_isAt 8 (qX1_isAt_0 8 42 rfl)
theorem dX1_isAt_9 : decode cX1_isAt 9 = .ok (.getfield 19, 3) := @dq_o180 cX1_isAt 9 0 19 (qX1_isAt_0 9 180 rfl) (qX1_isAt_0 10 0 rfl) (qX1_isAt_0 11 19 rfl)
theorem dX1_isAt_12 : decode cX1_isAt 12 = .ok (.iload_n 1, 1) := @dq_o27 cX1_isAt 12 (qX1_isAt_0 12 27 rfl)
theorem dX1_isAt_13 : decode cX1_isAt 13 = .ok (.bipush 6, 2) := @dq_o16 cX1_isAt 13 6 (qX1_isAt_0 13 16 rfl) (qX1_isAt_0 14 6 rfl)
theorem dX1_isAt_15 : decode cX1_isAt 15 = .ok (.imul, 1) := @dq_o104 cX1_isAt 15 (qX1_isAt_0 15 104 rfl)
theorem dX1_isAt_16 : decode cX1_isAt 16 = .ok (.iload_n 3, 1) := @dq_o29 cX1_isAt 16 (qX1_isAt_1 0 29 rfl)
theorem dX1_isAt_17 : decode cX1_isAt 17 = .ok (.iadd, 1) := @dq_o96 cX1_isAt 17 (qX1_isAt_1 1 96 rfl)
theorem dX1_isAt_18 : decode cX1_isAt 18 = .ok (.laload, 1) := @dq_o47 cX1_isAt 18 (qX1_isAt_1 2 47 rfl)
theorem dX1_isAt_19 : decode cX1_isAt 19 = .ok (.aload_n 2, 1) := @dq_o44 cX1_isAt 19 (qX1_isAt_1 3 44 rfl)
theorem dX1_isAt_20 : decode cX1_isAt 20 = .ok (.iload_n 3, 1) := @dq_o29 cX1_isAt 20 (qX1_isAt_1 4 29 rfl)
theorem dX1_isAt_21 : decode cX1_isAt 21 = .ok (.laload, 1) := @dq_o47 cX1_isAt 21 (qX1_isAt_1 5 47 rfl)
theorem dX1_isAt_22 : decode cX1_isAt 22 = .ok (.lcmp, 1) := @dq_o148 cX1_isAt 22 (qX1_isAt_1 6 148 rfl)
theorem dX1_isAt_23 : decode cX1_isAt 23 = .ok (.ifCond .eq 5, 3) := @dq_o153 cX1_isAt 23 0 5 (qX1_isAt_1 7 153 rfl) (qX1_isAt_1 8 0 rfl) (qX1_isAt_1 9 5 rfl)
theorem dX1_isAt_26 : decode cX1_isAt 26 = .ok (.iconst 0, 1) := @dq_o3 cX1_isAt 26 (qX1_isAt_1 10 3 rfl)
theorem dX1_isAt_27 : decode cX1_isAt 27 = .ok (.ireturn, 1) := @dq_o172 cX1_isAt 27 (qX1_isAt_1 11 172 rfl)
theorem dX1_isAt_28 : decode cX1_isAt 28 = .ok (.iinc 3 1, 3) := @dq_o132 cX1_isAt 28 3 1 (qX1_isAt_1 12 132 rfl) (qX1_isAt_1 13 3 rfl) (qX1_isAt_1 14 1 rfl)
theorem dX1_isAt_31 : decode cX1_isAt 31 = .ok (.goto (-29), 3) := @dq_o167 cX1_isAt 31 255 227 (qX1_isAt_1 15 167 rfl) (qX1_isAt_2 0 255 rfl) (qX1_isAt_2 1 227 rfl)
theorem dX1_isAt_34 : decode cX1_isAt 34 = .ok (.iconst 1, 1) := @dq_o4 cX1_isAt 34 (qX1_isAt_2 2 4 rfl)
theorem dX1_isAt_35 : decode cX1_isAt 35 = .ok (.ireturn, 1) := @dq_o172 cX1_isAt 35 (qX1_isAt_2 3 172 rfl)
abbrev qaX2_init_0 : List Nat := [42, 183, 0, 5, 42, 16, 64, 188, 10, 181, 0, 11, 42, 3, 181, 0]
abbrev qaX2_init_1 : List Nat := [15, 42, 17, 47, 44, 188, 10, 181, 0, 19, 42, 3, 181, 0, 22, 42]
abbrev qaX2_init_2 : List Nat := [17, 47, 44, 188, 10, 181, 0, 25, 42, 3, 181, 0, 28, 42, 16, 6]
abbrev qaX2_init_3 : List Nat := [188, 10, 181, 0, 31, 177]
def qtX2_init_4 : List Nat := []
def qtX2_init_3 : List Nat := qaX2_init_3 ++ qtX2_init_4
def qtX2_init_2 : List Nat := qaX2_init_2 ++ qtX2_init_3
def qtX2_init_1 : List Nat := qaX2_init_1 ++ qtX2_init_2
def qtX2_init_0 : List Nat := qaX2_init_0 ++ qtX2_init_1
theorem qeX2_init : cX2_init.data.toList.map UInt8.toNat = qtX2_init_0 := by decide +kernel
theorem qsX2_init_0 : ∀ i, dqNth qtX2_init_0 (0 + i) = dqNth qtX2_init_0 i := fun i => by rw [Nat.zero_add]
theorem qsX2_init_1 : ∀ i, dqNth qtX2_init_0 (16 + i) = dqNth qtX2_init_1 i := dq_step qsX2_init_0 rfl rfl
theorem qsX2_init_2 : ∀ i, dqNth qtX2_init_0 (32 + i) = dqNth qtX2_init_2 i := dq_step qsX2_init_1 rfl rfl
theorem qsX2_init_3 : ∀ i, dqNth qtX2_init_0 (48 + i) = dqNth qtX2_init_3 i := dq_step qsX2_init_2 rfl rfl
theorem qX2_init_0 (i b : Nat) (h : dqNth qaX2_init_0 i = some b) : DqBy cX2_init (0 + i) b := dqBy_of qeX2_init ((qsX2_init_0 i).trans (dq_in h))
theorem qX2_init_1 (i b : Nat) (h : dqNth qaX2_init_1 i = some b) : DqBy cX2_init (16 + i) b := dqBy_of qeX2_init ((qsX2_init_1 i).trans (dq_in h))
theorem qX2_init_2 (i b : Nat) (h : dqNth qaX2_init_2 i = some b) : DqBy cX2_init (32 + i) b := dqBy_of qeX2_init ((qsX2_init_2 i).trans (dq_in h))
theorem qX2_init_3 (i b : Nat) (h : dqNth qaX2_init_3 i = some b) : DqBy cX2_init (48 + i) b := dqBy_of qeX2_init ((qsX2_init_3 i).trans (dq_in h))
theorem dX2_init_0 : decode cX2_init 0 = .ok (.aload_n 0, 1) := @dq_o42 cX2_init 0 (qX2_init_0 0 42 rfl)
theorem dX2_init_1 : decode cX2_init 1 = .ok (.invokespecial 5, 3) := @dq_o183 cX2_init 1 0 5 (qX2_init_0 1 183 rfl) (qX2_init_0 2 0 rfl) (qX2_init_0 3 5 rfl)
theorem dX2_init_4 : decode cX2_init 4 = .ok (.aload_n 0, 1) := @dq_o42 cX2_init 4 (qX2_init_0 4 42 rfl)
theorem dX2_init_5 : decode cX2_init 5 = .ok (.bipush 64, 2) := @dq_o16 cX2_init 5 64 (qX2_init_0 5 16 rfl) (qX2_init_0 6 64 rfl)
theorem dX2_init_7 : decode cX2_init 7 = .ok (.newarray .int, 2) := by decide +kernel
theorem dX2_init_9 : decode cX2_init 9 = .ok (.putfield 11, 3) := @dq_o181 cX2_init 9 0 11 (qX2_init_0 9 181 rfl) (qX2_init_0 10 0 rfl) (qX2_init_0 11 11 rfl)
theorem dX2_init_12 : decode cX2_init 12 = .ok (.aload_n 0, 1) := @dq_o42 cX2_init 12 (qX2_init_0 12 42 rfl)
theorem dX2_init_13 : decode cX2_init 13 = .ok (.iconst 0, 1) := @dq_o3 cX2_init 13 (qX2_init_0 13 3 rfl)
theorem dX2_init_14 : decode cX2_init 14 = .ok (.putfield 15, 3) := @dq_o181 cX2_init 14 0 15 (qX2_init_0 14 181 rfl) (qX2_init_0 15 0 rfl) (qX2_init_1 0 15 rfl)
theorem dX2_init_17 : decode cX2_init 17 = .ok (.aload_n 0, 1) := @dq_o42 cX2_init 17 (qX2_init_1 1 42 rfl)
theorem dX2_init_18 : decode cX2_init 18 = .ok (.sipush 12076, 3) := @dq_o17 cX2_init 18 47 44 (qX2_init_1 2 17 rfl) (qX2_init_1 3 47 rfl) (qX2_init_1 4 44 rfl)
theorem dX2_init_21 : decode cX2_init 21 = .ok (.newarray .int, 2) := by decide +kernel
theorem dX2_init_23 : decode cX2_init 23 = .ok (.putfield 19, 3) := @dq_o181 cX2_init 23 0 19 (qX2_init_1 7 181 rfl) (qX2_init_1 8 0 rfl) (qX2_init_1 9 19 rfl)
theorem dX2_init_26 : decode cX2_init 26 = .ok (.aload_n 0, 1) := @dq_o42 cX2_init 26 (qX2_init_1 10 42 rfl)
theorem dX2_init_27 : decode cX2_init 27 = .ok (.iconst 0, 1) := @dq_o3 cX2_init 27 (qX2_init_1 11 3 rfl)
theorem dX2_init_28 : decode cX2_init 28 = .ok (.putfield 22, 3) := @dq_o181 cX2_init 28 0 22 (qX2_init_1 12 181 rfl) (qX2_init_1 13 0 rfl) (qX2_init_1 14 22 rfl)
theorem dX2_init_31 : decode cX2_init 31 = .ok (.aload_n 0, 1) := @dq_o42 cX2_init 31 (qX2_init_1 15 42 rfl)
theorem dX2_init_32 : decode cX2_init 32 = .ok (.sipush 12076, 3) := @dq_o17 cX2_init 32 47 44 (qX2_init_2 0 17 rfl) (qX2_init_2 1 47 rfl) (qX2_init_2 2 44 rfl)
theorem dX2_init_35 : decode cX2_init 35 = .ok (.newarray .int, 2) := by decide +kernel
theorem dX2_init_37 : decode cX2_init 37 = .ok (.putfield 25, 3) := @dq_o181 cX2_init 37 0 25 (qX2_init_2 5 181 rfl) (qX2_init_2 6 0 rfl) (qX2_init_2 7 25 rfl)
theorem dX2_init_40 : decode cX2_init 40 = .ok (.aload_n 0, 1) := @dq_o42 cX2_init 40 (qX2_init_2 8 42 rfl)
theorem dX2_init_41 : decode cX2_init 41 = .ok (.iconst 0, 1) := @dq_o3 cX2_init 41 (qX2_init_2 9 3 rfl)
theorem dX2_init_42 : decode cX2_init 42 = .ok (.putfield 28, 3) := @dq_o181 cX2_init 42 0 28 (qX2_init_2 10 181 rfl) (qX2_init_2 11 0 rfl) (qX2_init_2 12 28 rfl)
theorem dX2_init_45 : decode cX2_init 45 = .ok (.aload_n 0, 1) := @dq_o42 cX2_init 45 (qX2_init_2 13 42 rfl)
theorem dX2_init_46 : decode cX2_init 46 = .ok (.bipush 6, 2) := @dq_o16 cX2_init 46 6 (qX2_init_2 14 16 rfl) (qX2_init_2 15 6 rfl)
theorem dX2_init_48 : decode cX2_init 48 = .ok (.newarray .int, 2) := by decide +kernel
theorem dX2_init_50 : decode cX2_init 50 = .ok (.putfield 31, 3) := @dq_o181 cX2_init 50 0 31 (qX2_init_3 2 181 rfl) (qX2_init_3 3 0 rfl) (qX2_init_3 4 31 rfl)
theorem dX2_init_53 : decode cX2_init 53 = .ok (.return_, 1) := @dq_o177 cX2_init 53 (qX2_init_3 5 177 rfl)
abbrev qaX2_begin_0 : List Nat := [42, 3, 181, 0, 15, 177]
def qtX2_begin_1 : List Nat := []
def qtX2_begin_0 : List Nat := qaX2_begin_0 ++ qtX2_begin_1
theorem qeX2_begin : cX2_begin.data.toList.map UInt8.toNat = qtX2_begin_0 := by decide +kernel
theorem qsX2_begin_0 : ∀ i, dqNth qtX2_begin_0 (0 + i) = dqNth qtX2_begin_0 i := fun i => by rw [Nat.zero_add]
theorem qX2_begin_0 (i b : Nat) (h : dqNth qaX2_begin_0 i = some b) : DqBy cX2_begin (0 + i) b := dqBy_of qeX2_begin ((qsX2_begin_0 i).trans (dq_in h))
theorem dX2_begin_0 : decode cX2_begin 0 = .ok (.aload_n 0, 1) := @dq_o42 cX2_begin 0 (qX2_begin_0 0 42 rfl)
theorem dX2_begin_1 : decode cX2_begin 1 = .ok (.iconst 0, 1) := @dq_o3 cX2_begin 1 (qX2_begin_0 1 3 rfl)
theorem dX2_begin_2 : decode cX2_begin 2 = .ok (.putfield 15, 3) := @dq_o181 cX2_begin 2 0 15 (qX2_begin_0 2 181 rfl) (qX2_begin_0 3 0 rfl) (qX2_begin_0 4 15 rfl)
theorem dX2_begin_5 : decode cX2_begin 5 = .ok (.return_, 1) := @dq_o177 cX2_begin 5 (qX2_begin_0 5 177 rfl)
abbrev qaX2_add_0 : List Nat := [42, 180, 0, 15, 16, 64, 162, 0, 33, 27, 155, 0, 29, 27, 16, 6]
abbrev qaX2_add_1 : List Nat := [162, 0, 23, 42, 180, 0, 11, 42, 180, 0, 15, 27, 79, 42, 89, 180]
abbrev qaX2_add_2 : List Nat := [0, 15, 4, 96, 181, 0, 15, 177]
def qtX2_add_3 : List Nat := []
def qtX2_add_2 : List Nat := qaX2_add_2 ++ qtX2_add_3
def qtX2_add_1 : List Nat := qaX2_add_1 ++ qtX2_add_2
def qtX2_add_0 : List Nat := qaX2_add_0 ++ qtX2_add_1
theorem qeX2_add : cX2_add.data.toList.map UInt8.toNat = qtX2_add_0 := by decide +kernel
theorem qsX2_add_0 : ∀ i, dqNth qtX2_add_0 (0 + i) = dqNth qtX2_add_0 i := fun i => by rw [Nat.zero_add]
theorem qsX2_add_1 : ∀ i, dqNth qtX2_add_0 (16 + i) = dqNth qtX2_add_1 i := dq_step qsX2_add_0 rfl rfl
theorem qsX2_add_2 : ∀ i, dqNth qtX2_add_0 (32 + i) = dqNth qtX2_add_2 i := dq_step qsX2_add_1 rfl rfl
theorem qX2_add_0 (i b : Nat) (h : dqNth qaX2_add_0 i = some b) : DqBy cX2_add (0 + i) b := dqBy_of qeX2_add ((qsX2_add_0 i).trans (dq_in h))
theorem qX2_add_1 (i b : Nat) (h : dqNth qaX2_add_1 i = some b) : DqBy cX2_add (16 + i) b := dqBy_of qeX2_add ((qsX2_add_1 i).trans (dq_in h))
theorem qX2_add_2 (i b : Nat) (h : dqNth qaX2_add_2 i = some b) : DqBy cX2_add (32 + i) b := dqBy_of qeX2_add ((qsX2_add_2 i).trans (dq_in h))
theorem dX2_add_0 : decode cX2_add 0 = .ok (.aload_n 0, 1) := @dq_o42 cX2_add 0 (qX2_add_0 0 42 rfl)
theorem dX2_add_1 : decode cX2_add 1 = .ok (.getfield 15, 3) := @dq_o180 cX2_add 1 0 15 (qX2_add_0 1 180 rfl) (qX2_add_0 2 0 rfl) (qX2_add_0 3 15 rfl)
theorem dX2_add_4 : decode cX2_add 4 = .ok (.bipush 64, 2) := @dq_o16 cX2_add 4 64 (qX2_add_0 4 16 rfl) (qX2_add_0 5 64 rfl)
theorem dX2_add_6 : decode cX2_add 6 = .ok (.if_icmp .ge 33, 3) := @dq_o162 cX2_add 6 0 33 (qX2_add_0 6 162 rfl) (qX2_add_0 7 0 rfl) (qX2_add_0 8 33 rfl)
theorem dX2_add_9 : decode cX2_add 9 = .ok (.iload_n 1, 1) := @dq_o27 cX2_add 9 (qX2_add_0 9 27 rfl)
theorem dX2_add_10 : decode cX2_add 10 = .ok (.ifCond .lt 29, 3) := @dq_o155 cX2_add 10 0 29 (qX2_add_0 10 155 rfl) (qX2_add_0 11 0 rfl) (qX2_add_0 12 29 rfl)
theorem dX2_add_13 : decode cX2_add 13 = .ok (.iload_n 1, 1) := @dq_o27 cX2_add 13 (qX2_add_0 13 27 rfl)
theorem dX2_add_14 : decode cX2_add 14 = .ok (.bipush 6, 2) := @dq_o16 cX2_add 14 6 (qX2_add_0 14 16 rfl) (qX2_add_0 15 6 rfl)
theorem dX2_add_16 : decode cX2_add 16 = .ok (.if_icmp .ge 23, 3) := @dq_o162 cX2_add 16 0 23 (qX2_add_1 0 162 rfl) (qX2_add_1 1 0 rfl) (qX2_add_1 2 23 rfl)
theorem dX2_add_19 : decode cX2_add 19 = .ok (.aload_n 0, 1) := @dq_o42 cX2_add 19 (qX2_add_1 3 42 rfl)
theorem dX2_add_20 : decode cX2_add 20 = .ok (.getfield 11, 3) := @dq_o180 cX2_add 20 0 11 (qX2_add_1 4 180 rfl) (qX2_add_1 5 0 rfl) (qX2_add_1 6 11 rfl)
theorem dX2_add_23 : decode cX2_add 23 = .ok (.aload_n 0, 1) := @dq_o42 cX2_add 23 (qX2_add_1 7 42 rfl)
theorem dX2_add_24 : decode cX2_add 24 = .ok (.getfield 15, 3) := @dq_o180 cX2_add 24 0 15 (qX2_add_1 8 180 rfl) (qX2_add_1 9 0 rfl) (qX2_add_1 10 15 rfl)
theorem dX2_add_27 : decode cX2_add 27 = .ok (.iload_n 1, 1) := @dq_o27 cX2_add 27 (qX2_add_1 11 27 rfl)
theorem dX2_add_28 : decode cX2_add 28 = .ok (.iastore, 1) := @dq_o79 cX2_add 28 (qX2_add_1 12 79 rfl)
theorem dX2_add_29 : decode cX2_add 29 = .ok (.aload_n 0, 1) := @dq_o42 cX2_add 29 (qX2_add_1 13 42 rfl)
theorem dX2_add_30 : decode cX2_add 30 = .ok (.dup, 1) := @dq_o89 cX2_add 30 (qX2_add_1 14 89 rfl)
theorem dX2_add_31 : decode cX2_add 31 = .ok (.getfield 15, 3) := @dq_o180 cX2_add 31 0 15 (qX2_add_1 15 180 rfl) (qX2_add_2 0 0 rfl) (qX2_add_2 1 15 rfl)
theorem dX2_add_34 : decode cX2_add 34 = .ok (.iconst 1, 1) := @dq_o4 cX2_add 34 (qX2_add_2 2 4 rfl)
theorem dX2_add_35 : decode cX2_add 35 = .ok (.iadd, 1) := @dq_o96 cX2_add 35 (qX2_add_2 3 96 rfl)
theorem dX2_add_36 : decode cX2_add 36 = .ok (.putfield 15, 3) := @dq_o181 cX2_add 36 0 15 (qX2_add_2 4 181 rfl) (qX2_add_2 5 0 rfl) (qX2_add_2 6 15 rfl)
theorem dX2_add_39 : decode cX2_add 39 = .ok (.return_, 1) := @dq_o177 cX2_add 39 (qX2_add_2 7 177 rfl)
abbrev qaX2_addTails_0 : List Nat := [28, 4, 96, 54, 4, 21, 4, 43, 180, 0, 34, 162, 0, 36, 43, 28]
abbrev qaX2_addTails_1 : List Nat := [29, 21, 4, 182, 0, 39, 54, 5, 21, 5, 158, 0, 15, 42, 21, 4]
abbrev qaX2_addTails_2 : List Nat := [182, 0, 43, 132, 5, 255, 167, 255, 242, 132, 4, 1, 167, 255, 217, 177]
def qtX2_addTails_3 : List Nat := []
def qtX2_addTails_2 : List Nat := qaX2_addTails_2 ++ qtX2_addTails_3
def qtX2_addTails_1 : List Nat := qaX2_addTails_1 ++ qtX2_addTails_2
def qtX2_addTails_0 : List Nat := qaX2_addTails_0 ++ qtX2_addTails_1
theorem qeX2_addTails : cX2_addTails.data.toList.map UInt8.toNat = qtX2_addTails_0 := by decide +kernel
theorem qsX2_addTails_0 : ∀ i, dqNth qtX2_addTails_0 (0 + i) = dqNth qtX2_addTails_0 i := fun i => by rw [Nat.zero_add]
theorem qsX2_addTails_1 : ∀ i, dqNth qtX2_addTails_0 (16 + i) = dqNth qtX2_addTails_1 i := dq_step qsX2_addTails_0 rfl rfl
theorem qsX2_addTails_2 : ∀ i, dqNth qtX2_addTails_0 (32 + i) = dqNth qtX2_addTails_2 i := dq_step qsX2_addTails_1 rfl rfl
theorem qX2_addTails_0 (i b : Nat) (h : dqNth qaX2_addTails_0 i = some b) : DqBy cX2_addTails (0 + i) b := dqBy_of qeX2_addTails ((qsX2_addTails_0 i).trans (dq_in h))
theorem qX2_addTails_1 (i b : Nat) (h : dqNth qaX2_addTails_1 i = some b) : DqBy cX2_addTails (16 + i) b := dqBy_of qeX2_addTails ((qsX2_addTails_1 i).trans (dq_in h))
theorem qX2_addTails_2 (i b : Nat) (h : dqNth qaX2_addTails_2 i = some b) : DqBy cX2_addTails (32 + i) b := dqBy_of qeX2_addTails ((qsX2_addTails_2 i).trans (dq_in h))
theorem dX2_addTails_0 : decode cX2_addTails 0 = .ok (.iload_n 2, 1) := @dq_o28 cX2_addTails 0 (qX2_addTails_0 0 28 rfl)
theorem dX2_addTails_1 : decode cX2_addTails 1 = .ok (.iconst 1, 1) := @dq_o4 cX2_addTails 1 (qX2_addTails_0 1 4 rfl)
theorem dX2_addTails_2 : decode cX2_addTails 2 = .ok (.iadd, 1) := @dq_o96 cX2_addTails 2 (qX2_addTails_0 2 96 rfl)
theorem dX2_addTails_3 : decode cX2_addTails 3 = .ok (.istore 4, 2) := @dq_o54 cX2_addTails 3 4 (qX2_addTails_0 3 54 rfl) (qX2_addTails_0 4 4 rfl)
theorem dX2_addTails_5 : decode cX2_addTails 5 = .ok (.iload 4, 2) := @dq_o21 cX2_addTails 5 4 (qX2_addTails_0 5 21 rfl) (qX2_addTails_0 6 4 rfl)
theorem dX2_addTails_7 : decode cX2_addTails 7 = .ok (.aload_n 1, 1) := @dq_o43 cX2_addTails 7 (qX2_addTails_0 7 43 rfl)
theorem dX2_addTails_8 : decode cX2_addTails 8 = .ok (.getfield 34, 3) := @dq_o180 cX2_addTails 8 0 34 (qX2_addTails_0 8 180 rfl) (qX2_addTails_0 9 0 rfl) (qX2_addTails_0 10 34 rfl)
theorem dX2_addTails_11 : decode cX2_addTails 11 = .ok (.if_icmp .ge 36, 3) := @dq_o162 cX2_addTails 11 0 36 (qX2_addTails_0 11 162 rfl) (qX2_addTails_0 12 0 rfl) (qX2_addTails_0 13 36 rfl)
theorem dX2_addTails_14 : decode cX2_addTails 14 = .ok (.aload_n 1, 1) := @dq_o43 cX2_addTails 14 (qX2_addTails_0 14 43 rfl)
theorem dX2_addTails_15 : decode cX2_addTails 15 = .ok (.iload_n 2, 1) := @dq_o28 cX2_addTails 15 (qX2_addTails_0 15 28 rfl)
theorem dX2_addTails_16 : decode cX2_addTails 16 = .ok (.iload_n 3, 1) := @dq_o29 cX2_addTails 16 (qX2_addTails_1 0 29 rfl)
theorem dX2_addTails_17 : decode cX2_addTails 17 = .ok (.iload 4, 2) := @dq_o21 cX2_addTails 17 4 (qX2_addTails_1 1 21 rfl) (qX2_addTails_1 2 4 rfl)
theorem dX2_addTails_19 : decode cX2_addTails 19 = .ok (.invokevirtual 39, 3) := @dq_o182 cX2_addTails 19 0 39 (qX2_addTails_1 3 182 rfl) (qX2_addTails_1 4 0 rfl) (qX2_addTails_1 5 39 rfl)
theorem dX2_addTails_22 : decode cX2_addTails 22 = .ok (.istore 5, 2) := @dq_o54 cX2_addTails 22 5 (qX2_addTails_1 6 54 rfl) (qX2_addTails_1 7 5 rfl)
theorem dX2_addTails_24 : decode cX2_addTails 24 = .ok (.iload 5, 2) := @dq_o21 cX2_addTails 24 5 (qX2_addTails_1 8 21 rfl) (qX2_addTails_1 9 5 rfl)
theorem dX2_addTails_26 : decode cX2_addTails 26 = .ok (.ifCond .le 15, 3) := @dq_o158 cX2_addTails 26 0 15 (qX2_addTails_1 10 158 rfl) (qX2_addTails_1 11 0 rfl) (qX2_addTails_1 12 15 rfl)
theorem dX2_addTails_29 : decode cX2_addTails 29 = .ok (.aload_n 0, 1) := @dq_o42 cX2_addTails 29 (qX2_addTails_1 13 42 rfl)
theorem dX2_addTails_30 : decode cX2_addTails 30 = .ok (.iload 4, 2) := @dq_o21 cX2_addTails 30 4 (qX2_addTails_1 14 21 rfl) (qX2_addTails_1 15 4 rfl)
theorem dX2_addTails_32 : decode cX2_addTails 32 = .ok (.invokevirtual 43, 3) := @dq_o182 cX2_addTails 32 0 43 (qX2_addTails_2 0 182 rfl) (qX2_addTails_2 1 0 rfl) (qX2_addTails_2 2 43 rfl)
theorem dX2_addTails_35 : decode cX2_addTails 35 = .ok (.iinc 5 (-1), 3) := @dq_o132 cX2_addTails 35 5 255 (qX2_addTails_2 3 132 rfl) (qX2_addTails_2 4 5 rfl) (qX2_addTails_2 5 255 rfl)
theorem dX2_addTails_38 : decode cX2_addTails 38 = .ok (.goto (-14), 3) := @dq_o167 cX2_addTails 38 255 242 (qX2_addTails_2 6 167 rfl) (qX2_addTails_2 7 255 rfl) (qX2_addTails_2 8 242 rfl)
theorem dX2_addTails_41 : decode cX2_addTails 41 = .ok (.iinc 4 1, 3) := @dq_o132 cX2_addTails 41 4 1 (qX2_addTails_2 9 132 rfl) (qX2_addTails_2 10 4 rfl) (qX2_addTails_2 11 1 rfl)
theorem dX2_addTails_44 : decode cX2_addTails 44 = .ok (.goto (-39), 3) := @dq_o167 cX2_addTails 44 255 217 (qX2_addTails_2 12 167 rfl) (qX2_addTails_2 13 255 rfl) (qX2_addTails_2 14 217 rfl)
theorem dX2_addTails_47 : decode cX2_addTails 47 = .ok (.return_, 1) := @dq_o177 cX2_addTails 47 (qX2_addTails_2 15 177 rfl)
abbrev qaX2_run_0 : List Nat := [42, 3, 181, 0, 22, 42, 3, 181, 0, 28, 42, 180, 0, 15, 4, 100]
abbrev qaX2_run_1 : List Nat := [62, 29, 155, 0, 19, 42, 42, 180, 0, 11, 29, 46, 182, 0, 47, 132]
abbrev qaX2_run_2 : List Nat := [3, 255, 167, 255, 239, 3, 62, 3, 54, 4, 21, 4, 18, 50, 162, 0]
abbrev qaX2_run_3 : List Nat := [89, 42, 180, 0, 28, 158, 0, 82, 42, 180, 0, 25, 42, 180, 0, 28]
abbrev qaX2_run_4 : List Nat := [4, 100, 46, 54, 5, 42, 180, 0, 22, 153, 0, 19, 42, 180, 0, 19]
abbrev qaX2_run_5 : List Nat := [42, 180, 0, 22, 4, 100, 46, 21, 5, 163, 0, 12, 42, 21, 5, 182]
abbrev qaX2_run_6 : List Nat := [0, 51, 167, 0, 31, 29, 28, 160, 0, 5, 2, 172, 132, 3, 1, 42]
abbrev qaX2_run_7 : List Nat := [43, 42, 180, 0, 19, 42, 180, 0, 22, 4, 100, 46, 21, 5, 182, 0]
abbrev qaX2_run_8 : List Nat := [54, 132, 4, 1, 167, 255, 166, 42, 182, 0, 58, 29, 172]
def qtX2_run_9 : List Nat := []
def qtX2_run_8 : List Nat := qaX2_run_8 ++ qtX2_run_9
def qtX2_run_7 : List Nat := qaX2_run_7 ++ qtX2_run_8
def qtX2_run_6 : List Nat := qaX2_run_6 ++ qtX2_run_7
def qtX2_run_5 : List Nat := qaX2_run_5 ++ qtX2_run_6
def qtX2_run_4 : List Nat := qaX2_run_4 ++ qtX2_run_5
def qtX2_run_3 : List Nat := qaX2_run_3 ++ qtX2_run_4
def qtX2_run_2 : List Nat := qaX2_run_2 ++ qtX2_run_3
def qtX2_run_1 : List Nat := qaX2_run_1 ++ qtX2_run_2
def qtX2_run_0 : List Nat := qaX2_run_0 ++ qtX2_run_1
theorem qeX2_run : cX2_run.data.toList.map UInt8.toNat = qtX2_run_0 := by decide +kernel
theorem qsX2_run_0 : ∀ i, dqNth qtX2_run_0 (0 + i) = dqNth qtX2_run_0 i := fun i => by rw [Nat.zero_add]
theorem qsX2_run_1 : ∀ i, dqNth qtX2_run_0 (16 + i) = dqNth qtX2_run_1 i := dq_step qsX2_run_0 rfl rfl
theorem qsX2_run_2 : ∀ i, dqNth qtX2_run_0 (32 + i) = dqNth qtX2_run_2 i := dq_step qsX2_run_1 rfl rfl
theorem qsX2_run_3 : ∀ i, dqNth qtX2_run_0 (48 + i) = dqNth qtX2_run_3 i := dq_step qsX2_run_2 rfl rfl
theorem qsX2_run_4 : ∀ i, dqNth qtX2_run_0 (64 + i) = dqNth qtX2_run_4 i := dq_step qsX2_run_3 rfl rfl
theorem qsX2_run_5 : ∀ i, dqNth qtX2_run_0 (80 + i) = dqNth qtX2_run_5 i := dq_step qsX2_run_4 rfl rfl
theorem qsX2_run_6 : ∀ i, dqNth qtX2_run_0 (96 + i) = dqNth qtX2_run_6 i := dq_step qsX2_run_5 rfl rfl
theorem qsX2_run_7 : ∀ i, dqNth qtX2_run_0 (112 + i) = dqNth qtX2_run_7 i := dq_step qsX2_run_6 rfl rfl
theorem qsX2_run_8 : ∀ i, dqNth qtX2_run_0 (128 + i) = dqNth qtX2_run_8 i := dq_step qsX2_run_7 rfl rfl
theorem qX2_run_0 (i b : Nat) (h : dqNth qaX2_run_0 i = some b) : DqBy cX2_run (0 + i) b := dqBy_of qeX2_run ((qsX2_run_0 i).trans (dq_in h))
theorem qX2_run_1 (i b : Nat) (h : dqNth qaX2_run_1 i = some b) : DqBy cX2_run (16 + i) b := dqBy_of qeX2_run ((qsX2_run_1 i).trans (dq_in h))
theorem qX2_run_2 (i b : Nat) (h : dqNth qaX2_run_2 i = some b) : DqBy cX2_run (32 + i) b := dqBy_of qeX2_run ((qsX2_run_2 i).trans (dq_in h))
theorem qX2_run_3 (i b : Nat) (h : dqNth qaX2_run_3 i = some b) : DqBy cX2_run (48 + i) b := dqBy_of qeX2_run ((qsX2_run_3 i).trans (dq_in h))
theorem qX2_run_4 (i b : Nat) (h : dqNth qaX2_run_4 i = some b) : DqBy cX2_run (64 + i) b := dqBy_of qeX2_run ((qsX2_run_4 i).trans (dq_in h))
theorem qX2_run_5 (i b : Nat) (h : dqNth qaX2_run_5 i = some b) : DqBy cX2_run (80 + i) b := dqBy_of qeX2_run ((qsX2_run_5 i).trans (dq_in h))
theorem qX2_run_6 (i b : Nat) (h : dqNth qaX2_run_6 i = some b) : DqBy cX2_run (96 + i) b := dqBy_of qeX2_run ((qsX2_run_6 i).trans (dq_in h))
theorem qX2_run_7 (i b : Nat) (h : dqNth qaX2_run_7 i = some b) : DqBy cX2_run (112 + i) b := dqBy_of qeX2_run ((qsX2_run_7 i).trans (dq_in h))
theorem qX2_run_8 (i b : Nat) (h : dqNth qaX2_run_8 i = some b) : DqBy cX2_run (128 + i) b := dqBy_of qeX2_run ((qsX2_run_8 i).trans (dq_in h))
theorem dX2_run_0 : decode cX2_run 0 = .ok (.aload_n 0, 1) := @dq_o42 cX2_run 0 (qX2_run_0 0 42 rfl)
theorem dX2_run_1 : decode cX2_run 1 = .ok (.iconst 0, 1) := @dq_o3 cX2_run 1 (qX2_run_0 1 3 rfl)
theorem dX2_run_2 : decode cX2_run 2 = .ok (.putfield 22, 3) := @dq_o181 cX2_run 2 0 22 (qX2_run_0 2 181 rfl) (qX2_run_0 3 0 rfl) (qX2_run_0 4 22 rfl)
theorem dX2_run_5 : decode cX2_run 5 = .ok (.aload_n 0, 1) := @dq_o42 cX2_run 5 (qX2_run_0 5 42 rfl)
theorem dX2_run_6 : decode cX2_run 6 = .ok (.iconst 0, 1) := @dq_o3 cX2_run 6 (qX2_run_0 6 3 rfl)
theorem dX2_run_7 : decode cX2_run 7 = .ok (.putfield 28, 3) := @dq_o181 cX2_run 7 0 28 (qX2_run_0 7 181 rfl) (qX2_run_0 8 0 rfl) (qX2_run_0 9 28 rfl)
theorem dX2_run_10 : decode cX2_run 10 = .ok (.aload_n 0, 1) := @dq_o42 cX2_run 10 (qX2_run_0 10 42 rfl)
theorem dX2_run_11 : decode cX2_run 11 = .ok (.getfield 15, 3) := @dq_o180 cX2_run 11 0 15 (qX2_run_0 11 180 rfl) (qX2_run_0 12 0 rfl) (qX2_run_0 13 15 rfl)
theorem dX2_run_14 : decode cX2_run 14 = .ok (.iconst 1, 1) := @dq_o4 cX2_run 14 (qX2_run_0 14 4 rfl)
theorem dX2_run_15 : decode cX2_run 15 = .ok (.isub, 1) := @dq_o100 cX2_run 15 (qX2_run_0 15 100 rfl)
theorem dX2_run_16 : decode cX2_run 16 = .ok (.istore_n 3, 1) := @dq_o62 cX2_run 16 (qX2_run_1 0 62 rfl)
theorem dX2_run_17 : decode cX2_run 17 = .ok (.iload_n 3, 1) := @dq_o29 cX2_run 17 (qX2_run_1 1 29 rfl)
theorem dX2_run_18 : decode cX2_run 18 = .ok (.ifCond .lt 19, 3) := @dq_o155 cX2_run 18 0 19 (qX2_run_1 2 155 rfl) (qX2_run_1 3 0 rfl) (qX2_run_1 4 19 rfl)
theorem dX2_run_21 : decode cX2_run 21 = .ok (.aload_n 0, 1) := @dq_o42 cX2_run 21 (qX2_run_1 5 42 rfl)
theorem dX2_run_22 : decode cX2_run 22 = .ok (.aload_n 0, 1) := @dq_o42 cX2_run 22 (qX2_run_1 6 42 rfl)
theorem dX2_run_23 : decode cX2_run 23 = .ok (.getfield 11, 3) := @dq_o180 cX2_run 23 0 11 (qX2_run_1 7 180 rfl) (qX2_run_1 8 0 rfl) (qX2_run_1 9 11 rfl)
theorem dX2_run_26 : decode cX2_run 26 = .ok (.iload_n 3, 1) := @dq_o29 cX2_run 26 (qX2_run_1 10 29 rfl)
theorem dX2_run_27 : decode cX2_run 27 = .ok (.iaload, 1) := @dq_o46 cX2_run 27 (qX2_run_1 11 46 rfl)
theorem dX2_run_28 : decode cX2_run 28 = .ok (.invokevirtual 47, 3) := @dq_o182 cX2_run 28 0 47 (qX2_run_1 12 182 rfl) (qX2_run_1 13 0 rfl) (qX2_run_1 14 47 rfl)
theorem dX2_run_31 : decode cX2_run 31 = .ok (.iinc 3 (-1), 3) := @dq_o132 cX2_run 31 3 255 (qX2_run_1 15 132 rfl) (qX2_run_2 0 3 rfl) (qX2_run_2 1 255 rfl)
theorem dX2_run_34 : decode cX2_run 34 = .ok (.goto (-17), 3) := @dq_o167 cX2_run 34 255 239 (qX2_run_2 2 167 rfl) (qX2_run_2 3 255 rfl) (qX2_run_2 4 239 rfl)
theorem dX2_run_37 : decode cX2_run 37 = .ok (.iconst 0, 1) := @dq_o3 cX2_run 37 (qX2_run_2 5 3 rfl)
theorem dX2_run_38 : decode cX2_run 38 = .ok (.istore_n 3, 1) := @dq_o62 cX2_run 38 (qX2_run_2 6 62 rfl)
theorem dX2_run_39 : decode cX2_run 39 = .ok (.iconst 0, 1) := @dq_o3 cX2_run 39 (qX2_run_2 7 3 rfl)
theorem dX2_run_40 : decode cX2_run 40 = .ok (.istore 4, 2) := @dq_o54 cX2_run 40 4 (qX2_run_2 8 54 rfl) (qX2_run_2 9 4 rfl)
theorem dX2_run_42 : decode cX2_run 42 = .ok (.iload 4, 2) := @dq_o21 cX2_run 42 4 (qX2_run_2 10 21 rfl) (qX2_run_2 11 4 rfl)
theorem dX2_run_44 : decode cX2_run 44 = .ok (.ldc 50, 2) := @dq_o18 cX2_run 44 50 (qX2_run_2 12 18 rfl) (qX2_run_2 13 50 rfl)
theorem dX2_run_46 : decode cX2_run 46 = .ok (.if_icmp .ge 89, 3) := @dq_o162 cX2_run 46 0 89 (qX2_run_2 14 162 rfl) (qX2_run_2 15 0 rfl) (qX2_run_3 0 89 rfl)
theorem dX2_run_49 : decode cX2_run 49 = .ok (.aload_n 0, 1) := @dq_o42 cX2_run 49 (qX2_run_3 1 42 rfl)
theorem dX2_run_50 : decode cX2_run 50 = .ok (.getfield 28, 3) := @dq_o180 cX2_run 50 0 28 (qX2_run_3 2 180 rfl) (qX2_run_3 3 0 rfl) (qX2_run_3 4 28 rfl)
theorem dX2_run_53 : decode cX2_run 53 = .ok (.ifCond .le 82, 3) := @dq_o158 cX2_run 53 0 82 (qX2_run_3 5 158 rfl) (qX2_run_3 6 0 rfl) (qX2_run_3 7 82 rfl)
theorem dX2_run_56 : decode cX2_run 56 = .ok (.aload_n 0, 1) := @dq_o42 cX2_run 56 (qX2_run_3 8 42 rfl)
theorem dX2_run_57 : decode cX2_run 57 = .ok (.getfield 25, 3) := @dq_o180 cX2_run 57 0 25 (qX2_run_3 9 180 rfl) (qX2_run_3 10 0 rfl) (qX2_run_3 11 25 rfl)
theorem dX2_run_60 : decode cX2_run 60 = .ok (.aload_n 0, 1) := @dq_o42 cX2_run 60 (qX2_run_3 12 42 rfl)
theorem dX2_run_61 : decode cX2_run 61 = .ok (.getfield 28, 3) := @dq_o180 cX2_run 61 0 28 (qX2_run_3 13 180 rfl) (qX2_run_3 14 0 rfl) (qX2_run_3 15 28 rfl)
theorem dX2_run_64 : decode cX2_run 64 = .ok (.iconst 1, 1) := @dq_o4 cX2_run 64 (qX2_run_4 0 4 rfl)
theorem dX2_run_65 : decode cX2_run 65 = .ok (.isub, 1) := @dq_o100 cX2_run 65 (qX2_run_4 1 100 rfl)
theorem dX2_run_66 : decode cX2_run 66 = .ok (.iaload, 1) := @dq_o46 cX2_run 66 (qX2_run_4 2 46 rfl)
theorem dX2_run_67 : decode cX2_run 67 = .ok (.istore 5, 2) := @dq_o54 cX2_run 67 5 (qX2_run_4 3 54 rfl) (qX2_run_4 4 5 rfl)
theorem dX2_run_69 : decode cX2_run 69 = .ok (.aload_n 0, 1) := @dq_o42 cX2_run 69 (qX2_run_4 5 42 rfl)
theorem dX2_run_70 : decode cX2_run 70 = .ok (.getfield 22, 3) := @dq_o180 cX2_run 70 0 22 (qX2_run_4 6 180 rfl) (qX2_run_4 7 0 rfl) (qX2_run_4 8 22 rfl)
theorem dX2_run_73 : decode cX2_run 73 = .ok (.ifCond .eq 19, 3) := @dq_o153 cX2_run 73 0 19 (qX2_run_4 9 153 rfl) (qX2_run_4 10 0 rfl) (qX2_run_4 11 19 rfl)
theorem dX2_run_76 : decode cX2_run 76 = .ok (.aload_n 0, 1) := @dq_o42 cX2_run 76 (qX2_run_4 12 42 rfl)
theorem dX2_run_77 : decode cX2_run 77 = .ok (.getfield 19, 3) := @dq_o180 cX2_run 77 0 19 (qX2_run_4 13 180 rfl) (qX2_run_4 14 0 rfl) (qX2_run_4 15 19 rfl)
theorem dX2_run_80 : decode cX2_run 80 = .ok (.aload_n 0, 1) := @dq_o42 cX2_run 80 (qX2_run_5 0 42 rfl)
theorem dX2_run_81 : decode cX2_run 81 = .ok (.getfield 22, 3) := @dq_o180 cX2_run 81 0 22 (qX2_run_5 1 180 rfl) (qX2_run_5 2 0 rfl) (qX2_run_5 3 22 rfl)
theorem dX2_run_84 : decode cX2_run 84 = .ok (.iconst 1, 1) := @dq_o4 cX2_run 84 (qX2_run_5 4 4 rfl)
theorem dX2_run_85 : decode cX2_run 85 = .ok (.isub, 1) := @dq_o100 cX2_run 85 (qX2_run_5 5 100 rfl)
theorem dX2_run_86 : decode cX2_run 86 = .ok (.iaload, 1) := @dq_o46 cX2_run 86 (qX2_run_5 6 46 rfl)
theorem dX2_run_87 : decode cX2_run 87 = .ok (.iload 5, 2) := @dq_o21 cX2_run 87 5 (qX2_run_5 7 21 rfl) (qX2_run_5 8 5 rfl)
theorem dX2_run_89 : decode cX2_run 89 = .ok (.if_icmp .gt 12, 3) := @dq_o163 cX2_run 89 0 12 (qX2_run_5 9 163 rfl) (qX2_run_5 10 0 rfl) (qX2_run_5 11 12 rfl)
theorem dX2_run_92 : decode cX2_run 92 = .ok (.aload_n 0, 1) := @dq_o42 cX2_run 92 (qX2_run_5 12 42 rfl)
theorem dX2_run_93 : decode cX2_run 93 = .ok (.iload 5, 2) := @dq_o21 cX2_run 93 5 (qX2_run_5 13 21 rfl) (qX2_run_5 14 5 rfl)
theorem dX2_run_95 : decode cX2_run 95 = .ok (.invokevirtual 51, 3) := @dq_o182 cX2_run 95 0 51 (qX2_run_5 15 182 rfl) (qX2_run_6 0 0 rfl) (qX2_run_6 1 51 rfl)
theorem dX2_run_98 : decode cX2_run 98 = .ok (.goto 31, 3) := @dq_o167 cX2_run 98 0 31 (qX2_run_6 2 167 rfl) (qX2_run_6 3 0 rfl) (qX2_run_6 4 31 rfl)
theorem dX2_run_101 : decode cX2_run 101 = .ok (.iload_n 3, 1) := @dq_o29 cX2_run 101 (qX2_run_6 5 29 rfl)
theorem dX2_run_102 : decode cX2_run 102 = .ok (.iload_n 2, 1) := @dq_o28 cX2_run 102 (qX2_run_6 6 28 rfl)
theorem dX2_run_103 : decode cX2_run 103 = .ok (.if_icmp .ne 5, 3) := @dq_o160 cX2_run 103 0 5 (qX2_run_6 7 160 rfl) (qX2_run_6 8 0 rfl) (qX2_run_6 9 5 rfl)
theorem dX2_run_106 : decode cX2_run 106 = .ok (.iconst (-1), 1) := @dq_o2 cX2_run 106 (qX2_run_6 10 2 rfl)
theorem dX2_run_107 : decode cX2_run 107 = .ok (.ireturn, 1) := @dq_o172 cX2_run 107 (qX2_run_6 11 172 rfl)
theorem dX2_run_108 : decode cX2_run 108 = .ok (.iinc 3 1, 3) := @dq_o132 cX2_run 108 3 1 (qX2_run_6 12 132 rfl) (qX2_run_6 13 3 rfl) (qX2_run_6 14 1 rfl)
theorem dX2_run_111 : decode cX2_run 111 = .ok (.aload_n 0, 1) := @dq_o42 cX2_run 111 (qX2_run_6 15 42 rfl)
theorem dX2_run_112 : decode cX2_run 112 = .ok (.aload_n 1, 1) := @dq_o43 cX2_run 112 (qX2_run_7 0 43 rfl)
theorem dX2_run_113 : decode cX2_run 113 = .ok (.aload_n 0, 1) := @dq_o42 cX2_run 113 (qX2_run_7 1 42 rfl)
theorem dX2_run_114 : decode cX2_run 114 = .ok (.getfield 19, 3) := @dq_o180 cX2_run 114 0 19 (qX2_run_7 2 180 rfl) (qX2_run_7 3 0 rfl) (qX2_run_7 4 19 rfl)
theorem dX2_run_117 : decode cX2_run 117 = .ok (.aload_n 0, 1) := @dq_o42 cX2_run 117 (qX2_run_7 5 42 rfl)
theorem dX2_run_118 : decode cX2_run 118 = .ok (.getfield 22, 3) := @dq_o180 cX2_run 118 0 22 (qX2_run_7 6 180 rfl) (qX2_run_7 7 0 rfl) (qX2_run_7 8 22 rfl)
theorem dX2_run_121 : decode cX2_run 121 = .ok (.iconst 1, 1) := @dq_o4 cX2_run 121 (qX2_run_7 9 4 rfl)
theorem dX2_run_122 : decode cX2_run 122 = .ok (.isub, 1) := @dq_o100 cX2_run 122 (qX2_run_7 10 100 rfl)
theorem dX2_run_123 : decode cX2_run 123 = .ok (.iaload, 1) := @dq_o46 cX2_run 123 (qX2_run_7 11 46 rfl)
theorem dX2_run_124 : decode cX2_run 124 = .ok (.iload 5, 2) := @dq_o21 cX2_run 124 5 (qX2_run_7 12 21 rfl) (qX2_run_7 13 5 rfl)
theorem dX2_run_126 : decode cX2_run 126 = .ok (.invokevirtual 54, 3) := @dq_o182 cX2_run 126 0 54 (qX2_run_7 14 182 rfl) (qX2_run_7 15 0 rfl) (qX2_run_8 0 54 rfl)
theorem dX2_run_129 : decode cX2_run 129 = .ok (.iinc 4 1, 3) := @dq_o132 cX2_run 129 4 1 (qX2_run_8 1 132 rfl) (qX2_run_8 2 4 rfl) (qX2_run_8 3 1 rfl)
theorem dX2_run_132 : decode cX2_run 132 = .ok (.goto (-90), 3) := @dq_o167 cX2_run 132 255 166 (qX2_run_8 4 167 rfl) (qX2_run_8 5 255 rfl) (qX2_run_8 6 166 rfl)
theorem dX2_run_135 : decode cX2_run 135 = .ok (.aload_n 0, 1) := @dq_o42 cX2_run 135 (qX2_run_8 7 42 rfl)
theorem dX2_run_136 : decode cX2_run 136 = .ok (.invokevirtual 58, 3) := @dq_o182 cX2_run 136 0 58 (qX2_run_8 8 182 rfl) (qX2_run_8 9 0 rfl) (qX2_run_8 10 58 rfl)
theorem dX2_run_139 : decode cX2_run 139 = .ok (.iload_n 3, 1) := @dq_o29 cX2_run 139 (qX2_run_8 11 29 rfl)
theorem dX2_run_140 : decode cX2_run 140 = .ok (.ireturn, 1) := @dq_o172 cX2_run 140 (qX2_run_8 12 172 rfl)
abbrev qaX2_putAhead_0 : List Nat := [42, 180, 0, 28, 17, 47, 44, 162, 0, 23, 42, 180, 0, 25, 42, 180]
abbrev qaX2_putAhead_1 : List Nat := [0, 28, 27, 79, 42, 89, 180, 0, 28, 4, 96, 181, 0, 28, 177]
def qtX2_putAhead_2 : List Nat := []
def qtX2_putAhead_1 : List Nat := qaX2_putAhead_1 ++ qtX2_putAhead_2
def qtX2_putAhead_0 : List Nat := qaX2_putAhead_0 ++ qtX2_putAhead_1
theorem qeX2_putAhead : cX2_putAhead.data.toList.map UInt8.toNat = qtX2_putAhead_0 := by decide +kernel
theorem qsX2_putAhead_0 : ∀ i, dqNth qtX2_putAhead_0 (0 + i) = dqNth qtX2_putAhead_0 i := fun i => by rw [Nat.zero_add]
theorem qsX2_putAhead_1 : ∀ i, dqNth qtX2_putAhead_0 (16 + i) = dqNth qtX2_putAhead_1 i := dq_step qsX2_putAhead_0 rfl rfl
theorem qX2_putAhead_0 (i b : Nat) (h : dqNth qaX2_putAhead_0 i = some b) : DqBy cX2_putAhead (0 + i) b := dqBy_of qeX2_putAhead ((qsX2_putAhead_0 i).trans (dq_in h))
theorem qX2_putAhead_1 (i b : Nat) (h : dqNth qaX2_putAhead_1 i = some b) : DqBy cX2_putAhead (16 + i) b := dqBy_of qeX2_putAhead ((qsX2_putAhead_1 i).trans (dq_in h))
theorem dX2_putAhead_0 : decode cX2_putAhead 0 = .ok (.aload_n 0, 1) := @dq_o42 cX2_putAhead 0 (qX2_putAhead_0 0 42 rfl)
theorem dX2_putAhead_1 : decode cX2_putAhead 1 = .ok (.getfield 28, 3) := @dq_o180 cX2_putAhead 1 0 28 (qX2_putAhead_0 1 180 rfl) (qX2_putAhead_0 2 0 rfl) (qX2_putAhead_0 3 28 rfl)
theorem dX2_putAhead_4 : decode cX2_putAhead 4 = .ok (.sipush 12076, 3) := @dq_o17 cX2_putAhead 4 47 44 (qX2_putAhead_0 4 17 rfl) (qX2_putAhead_0 5 47 rfl) (qX2_putAhead_0 6 44 rfl)
theorem dX2_putAhead_7 : decode cX2_putAhead 7 = .ok (.if_icmp .ge 23, 3) := @dq_o162 cX2_putAhead 7 0 23 (qX2_putAhead_0 7 162 rfl) (qX2_putAhead_0 8 0 rfl) (qX2_putAhead_0 9 23 rfl)
theorem dX2_putAhead_10 : decode cX2_putAhead 10 = .ok (.aload_n 0, 1) := @dq_o42 cX2_putAhead 10 (qX2_putAhead_0 10 42 rfl)
theorem dX2_putAhead_11 : decode cX2_putAhead 11 = .ok (.getfield 25, 3) := @dq_o180 cX2_putAhead 11 0 25 (qX2_putAhead_0 11 180 rfl) (qX2_putAhead_0 12 0 rfl) (qX2_putAhead_0 13 25 rfl)
theorem dX2_putAhead_14 : decode cX2_putAhead 14 = .ok (.aload_n 0, 1) := @dq_o42 cX2_putAhead 14 (qX2_putAhead_0 14 42 rfl)
theorem dX2_putAhead_15 : decode cX2_putAhead 15 = .ok (.getfield 28, 3) := @dq_o180 cX2_putAhead 15 0 28 (qX2_putAhead_0 15 180 rfl) (qX2_putAhead_1 0 0 rfl) (qX2_putAhead_1 1 28 rfl)
theorem dX2_putAhead_18 : decode cX2_putAhead 18 = .ok (.iload_n 1, 1) := @dq_o27 cX2_putAhead 18 (qX2_putAhead_1 2 27 rfl)
theorem dX2_putAhead_19 : decode cX2_putAhead 19 = .ok (.iastore, 1) := @dq_o79 cX2_putAhead 19 (qX2_putAhead_1 3 79 rfl)
theorem dX2_putAhead_20 : decode cX2_putAhead 20 = .ok (.aload_n 0, 1) := @dq_o42 cX2_putAhead 20 (qX2_putAhead_1 4 42 rfl)
theorem dX2_putAhead_21 : decode cX2_putAhead 21 = .ok (.dup, 1) := @dq_o89 cX2_putAhead 21 (qX2_putAhead_1 5 89 rfl)
theorem dX2_putAhead_22 : decode cX2_putAhead 22 = .ok (.getfield 28, 3) := @dq_o180 cX2_putAhead 22 0 28 (qX2_putAhead_1 6 180 rfl) (qX2_putAhead_1 7 0 rfl) (qX2_putAhead_1 8 28 rfl)
theorem dX2_putAhead_25 : decode cX2_putAhead 25 = .ok (.iconst 1, 1) := @dq_o4 cX2_putAhead 25 (qX2_putAhead_1 9 4 rfl)
theorem dX2_putAhead_26 : decode cX2_putAhead 26 = .ok (.iadd, 1) := @dq_o96 cX2_putAhead 26 (qX2_putAhead_1 10 96 rfl)
theorem dX2_putAhead_27 : decode cX2_putAhead 27 = .ok (.putfield 28, 3) := @dq_o181 cX2_putAhead 27 0 28 (qX2_putAhead_1 11 181 rfl) (qX2_putAhead_1 12 0 rfl) (qX2_putAhead_1 13 28 rfl)
theorem dX2_putAhead_30 : decode cX2_putAhead 30 = .ok (.return_, 1) := @dq_o177 cX2_putAhead 30 (qX2_putAhead_1 14 177 rfl)
abbrev qaX2_moveOn_0 : List Nat := [42, 89, 180, 0, 28, 4, 100, 181, 0, 28, 42, 180, 0, 22, 17, 47]
abbrev qaX2_moveOn_1 : List Nat := [44, 162, 0, 23, 42, 180, 0, 19, 42, 180, 0, 22, 27, 79, 42, 89]
abbrev qaX2_moveOn_2 : List Nat := [180, 0, 22, 4, 96, 181, 0, 22, 177]
def qtX2_moveOn_3 : List Nat := []
def qtX2_moveOn_2 : List Nat := qaX2_moveOn_2 ++ qtX2_moveOn_3
def qtX2_moveOn_1 : List Nat := qaX2_moveOn_1 ++ qtX2_moveOn_2
def qtX2_moveOn_0 : List Nat := qaX2_moveOn_0 ++ qtX2_moveOn_1
theorem qeX2_moveOn : cX2_moveOn.data.toList.map UInt8.toNat = qtX2_moveOn_0 := by decide +kernel
theorem qsX2_moveOn_0 : ∀ i, dqNth qtX2_moveOn_0 (0 + i) = dqNth qtX2_moveOn_0 i := fun i => by rw [Nat.zero_add]
theorem qsX2_moveOn_1 : ∀ i, dqNth qtX2_moveOn_0 (16 + i) = dqNth qtX2_moveOn_1 i := dq_step qsX2_moveOn_0 rfl rfl
theorem qsX2_moveOn_2 : ∀ i, dqNth qtX2_moveOn_0 (32 + i) = dqNth qtX2_moveOn_2 i := dq_step qsX2_moveOn_1 rfl rfl
theorem qX2_moveOn_0 (i b : Nat) (h : dqNth qaX2_moveOn_0 i = some b) : DqBy cX2_moveOn (0 + i) b := dqBy_of qeX2_moveOn ((qsX2_moveOn_0 i).trans (dq_in h))
theorem qX2_moveOn_1 (i b : Nat) (h : dqNth qaX2_moveOn_1 i = some b) : DqBy cX2_moveOn (16 + i) b := dqBy_of qeX2_moveOn ((qsX2_moveOn_1 i).trans (dq_in h))
theorem qX2_moveOn_2 (i b : Nat) (h : dqNth qaX2_moveOn_2 i = some b) : DqBy cX2_moveOn (32 + i) b := dqBy_of qeX2_moveOn ((qsX2_moveOn_2 i).trans (dq_in h))
theorem dX2_moveOn_0 : decode cX2_moveOn 0 = .ok (.aload_n 0, 1) := @dq_o42 cX2_moveOn 0 (qX2_moveOn_0 0 42 rfl)
theorem dX2_moveOn_1 : decode cX2_moveOn 1 = .ok (.dup, 1) := @dq_o89 cX2_moveOn 1 (qX2_moveOn_0 1 89 rfl)
theorem dX2_moveOn_2 : decode cX2_moveOn 2 = .ok (.getfield 28, 3) := @dq_o180 cX2_moveOn 2 0 28 (qX2_moveOn_0 2 180 rfl) (qX2_moveOn_0 3 0 rfl) (qX2_moveOn_0 4 28 rfl)
theorem dX2_moveOn_5 : decode cX2_moveOn 5 = .ok (.iconst 1, 1) := @dq_o4 cX2_moveOn 5 (qX2_moveOn_0 5 4 rfl)
theorem dX2_moveOn_6 : decode cX2_moveOn 6 = .ok (.isub, 1) := @dq_o100 cX2_moveOn 6 (qX2_moveOn_0 6 100 rfl)
theorem dX2_moveOn_7 : decode cX2_moveOn 7 = .ok (.putfield 28, 3) := @dq_o181 cX2_moveOn 7 0 28 (qX2_moveOn_0 7 181 rfl) (qX2_moveOn_0 8 0 rfl) (qX2_moveOn_0 9 28 rfl)
theorem dX2_moveOn_10 : decode cX2_moveOn 10 = .ok (.aload_n 0, 1) := @dq_o42 cX2_moveOn 10 (qX2_moveOn_0 10 42 rfl)
theorem dX2_moveOn_11 : decode cX2_moveOn 11 = .ok (.getfield 22, 3) := @dq_o180 cX2_moveOn 11 0 22 (qX2_moveOn_0 11 180 rfl) (qX2_moveOn_0 12 0 rfl) (qX2_moveOn_0 13 22 rfl)
theorem dX2_moveOn_14 : decode cX2_moveOn 14 = .ok (.sipush 12076, 3) := @dq_o17 cX2_moveOn 14 47 44 (qX2_moveOn_0 14 17 rfl) (qX2_moveOn_0 15 47 rfl) (qX2_moveOn_1 0 44 rfl)
theorem dX2_moveOn_17 : decode cX2_moveOn 17 = .ok (.if_icmp .ge 23, 3) := @dq_o162 cX2_moveOn 17 0 23 (qX2_moveOn_1 1 162 rfl) (qX2_moveOn_1 2 0 rfl) (qX2_moveOn_1 3 23 rfl)
theorem dX2_moveOn_20 : decode cX2_moveOn 20 = .ok (.aload_n 0, 1) := @dq_o42 cX2_moveOn 20 (qX2_moveOn_1 4 42 rfl)
theorem dX2_moveOn_21 : decode cX2_moveOn 21 = .ok (.getfield 19, 3) := @dq_o180 cX2_moveOn 21 0 19 (qX2_moveOn_1 5 180 rfl) (qX2_moveOn_1 6 0 rfl) (qX2_moveOn_1 7 19 rfl)
theorem dX2_moveOn_24 : decode cX2_moveOn 24 = .ok (.aload_n 0, 1) := @dq_o42 cX2_moveOn 24 (qX2_moveOn_1 8 42 rfl)
theorem dX2_moveOn_25 : decode cX2_moveOn 25 = .ok (.getfield 22, 3) := @dq_o180 cX2_moveOn 25 0 22 (qX2_moveOn_1 9 180 rfl) (qX2_moveOn_1 10 0 rfl) (qX2_moveOn_1 11 22 rfl)
theorem dX2_moveOn_28 : decode cX2_moveOn 28 = .ok (.iload_n 1, 1) := @dq_o27 cX2_moveOn 28 (qX2_moveOn_1 12 27 rfl)
theorem dX2_moveOn_29 : decode cX2_moveOn 29 = .ok (.iastore, 1) := @dq_o79 cX2_moveOn 29 (qX2_moveOn_1 13 79 rfl)
theorem dX2_moveOn_30 : decode cX2_moveOn 30 = .ok (.aload_n 0, 1) := @dq_o42 cX2_moveOn 30 (qX2_moveOn_1 14 42 rfl)
theorem dX2_moveOn_31 : decode cX2_moveOn 31 = .ok (.dup, 1) := @dq_o89 cX2_moveOn 31 (qX2_moveOn_1 15 89 rfl)
theorem dX2_moveOn_32 : decode cX2_moveOn 32 = .ok (.getfield 22, 3) := @dq_o180 cX2_moveOn 32 0 22 (qX2_moveOn_2 0 180 rfl) (qX2_moveOn_2 1 0 rfl) (qX2_moveOn_2 2 22 rfl)
theorem dX2_moveOn_35 : decode cX2_moveOn 35 = .ok (.iconst 1, 1) := @dq_o4 cX2_moveOn 35 (qX2_moveOn_2 3 4 rfl)
theorem dX2_moveOn_36 : decode cX2_moveOn 36 = .ok (.iadd, 1) := @dq_o96 cX2_moveOn 36 (qX2_moveOn_2 4 96 rfl)
theorem dX2_moveOn_37 : decode cX2_moveOn 37 = .ok (.putfield 22, 3) := @dq_o181 cX2_moveOn 37 0 22 (qX2_moveOn_2 5 181 rfl) (qX2_moveOn_2 6 0 rfl) (qX2_moveOn_2 7 22 rfl)
theorem dX2_moveOn_40 : decode cX2_moveOn 40 = .ok (.return_, 1) := @dq_o177 cX2_moveOn 40 (qX2_moveOn_2 8 177 rfl)
abbrev qaX2_exchange_0 : List Nat := [42, 89, 180, 0, 22, 4, 100, 181, 0, 22, 42, 89, 180, 0, 28, 4]
abbrev qaX2_exchange_1 : List Nat := [100, 181, 0, 28, 43, 180, 0, 34, 4, 100, 54, 4, 21, 4, 28, 164]
abbrev qaX2_exchange_2 : List Nat := [0, 36, 43, 28, 29, 21, 4, 182, 0, 39, 54, 5, 21, 5, 158, 0]
abbrev qaX2_exchange_3 : List Nat := [15, 42, 21, 4, 182, 0, 47, 132, 5, 255, 167, 255, 242, 132, 4, 255]
abbrev qaX2_exchange_4 : List Nat := [167, 255, 220, 42, 28, 182, 0, 47, 42, 29, 182, 0, 47, 177]
def qtX2_exchange_5 : List Nat := []
def qtX2_exchange_4 : List Nat := qaX2_exchange_4 ++ qtX2_exchange_5
def qtX2_exchange_3 : List Nat := qaX2_exchange_3 ++ qtX2_exchange_4
def qtX2_exchange_2 : List Nat := qaX2_exchange_2 ++ qtX2_exchange_3
def qtX2_exchange_1 : List Nat := qaX2_exchange_1 ++ qtX2_exchange_2
def qtX2_exchange_0 : List Nat := qaX2_exchange_0 ++ qtX2_exchange_1
theorem qeX2_exchange : cX2_exchange.data.toList.map UInt8.toNat = qtX2_exchange_0 := by decide +kernel
theorem qsX2_exchange_0 : ∀ i, dqNth qtX2_exchange_0 (0 + i) = dqNth qtX2_exchange_0 i := fun i => by rw [Nat.zero_add]
theorem qsX2_exchange_1 : ∀ i, dqNth qtX2_exchange_0 (16 + i) = dqNth qtX2_exchange_1 i := dq_step qsX2_exchange_0 rfl rfl
theorem qsX2_exchange_2 : ∀ i, dqNth qtX2_exchange_0 (32 + i) = dqNth qtX2_exchange_2 i := dq_step qsX2_exchange_1 rfl rfl
theorem qsX2_exchange_3 : ∀ i, dqNth qtX2_exchange_0 (48 + i) = dqNth qtX2_exchange_3 i := dq_step qsX2_exchange_2 rfl rfl
theorem qsX2_exchange_4 : ∀ i, dqNth qtX2_exchange_0 (64 + i) = dqNth qtX2_exchange_4 i := dq_step qsX2_exchange_3 rfl rfl
theorem qX2_exchange_0 (i b : Nat) (h : dqNth qaX2_exchange_0 i = some b) : DqBy cX2_exchange (0 + i) b := dqBy_of qeX2_exchange ((qsX2_exchange_0 i).trans (dq_in h))
theorem qX2_exchange_1 (i b : Nat) (h : dqNth qaX2_exchange_1 i = some b) : DqBy cX2_exchange (16 + i) b := dqBy_of qeX2_exchange ((qsX2_exchange_1 i).trans (dq_in h))
theorem qX2_exchange_2 (i b : Nat) (h : dqNth qaX2_exchange_2 i = some b) : DqBy cX2_exchange (32 + i) b := dqBy_of qeX2_exchange ((qsX2_exchange_2 i).trans (dq_in h))
theorem qX2_exchange_3 (i b : Nat) (h : dqNth qaX2_exchange_3 i = some b) : DqBy cX2_exchange (48 + i) b := dqBy_of qeX2_exchange ((qsX2_exchange_3 i).trans (dq_in h))
theorem qX2_exchange_4 (i b : Nat) (h : dqNth qaX2_exchange_4 i = some b) : DqBy cX2_exchange (64 + i) b := dqBy_of qeX2_exchange ((qsX2_exchange_4 i).trans (dq_in h))
theorem dX2_exchange_0 : decode cX2_exchange 0 = .ok (.aload_n 0, 1) := @dq_o42 cX2_exchange 0 (qX2_exchange_0 0 42 rfl)
theorem dX2_exchange_1 : decode cX2_exchange 1 = .ok (.dup, 1) := @dq_o89 cX2_exchange 1 (qX2_exchange_0 1 89 rfl)
theorem dX2_exchange_2 : decode cX2_exchange 2 = .ok (.getfield 22, 3) := @dq_o180 cX2_exchange 2 0 22 (qX2_exchange_0 2 180 rfl) (qX2_exchange_0 3 0 rfl) (qX2_exchange_0 4 22 rfl)
theorem dX2_exchange_5 : decode cX2_exchange 5 = .ok (.iconst 1, 1) := @dq_o4 cX2_exchange 5 (qX2_exchange_0 5 4 rfl)
theorem dX2_exchange_6 : decode cX2_exchange 6 = .ok (.isub, 1) := @dq_o100 cX2_exchange 6 (qX2_exchange_0 6 100 rfl)
theorem dX2_exchange_7 : decode cX2_exchange 7 = .ok (.putfield 22, 3) := @dq_o181 cX2_exchange 7 0 22 (qX2_exchange_0 7 181 rfl) (qX2_exchange_0 8 0 rfl) (qX2_exchange_0 9 22 rfl)
theorem dX2_exchange_10 : decode cX2_exchange 10 = .ok (.aload_n 0, 1) := @dq_o42 cX2_exchange 10 (qX2_exchange_0 10 42 rfl)
theorem dX2_exchange_11 : decode cX2_exchange 11 = .ok (.dup, 1) := @dq_o89 cX2_exchange 11 (qX2_exchange_0 11 89 rfl)
theorem dX2_exchange_12 : decode cX2_exchange 12 = .ok (.getfield 28, 3) := @dq_o180 cX2_exchange 12 0 28 (qX2_exchange_0 12 180 rfl) (qX2_exchange_0 13 0 rfl) (qX2_exchange_0 14 28 rfl)
theorem dX2_exchange_15 : decode cX2_exchange 15 = .ok (.iconst 1, 1) := @dq_o4 cX2_exchange 15 (qX2_exchange_0 15 4 rfl)
theorem dX2_exchange_16 : decode cX2_exchange 16 = .ok (.isub, 1) := @dq_o100 cX2_exchange 16 (qX2_exchange_1 0 100 rfl)
theorem dX2_exchange_17 : decode cX2_exchange 17 = .ok (.putfield 28, 3) := @dq_o181 cX2_exchange 17 0 28 (qX2_exchange_1 1 181 rfl) (qX2_exchange_1 2 0 rfl) (qX2_exchange_1 3 28 rfl)
theorem dX2_exchange_20 : decode cX2_exchange 20 = .ok (.aload_n 1, 1) := @dq_o43 cX2_exchange 20 (qX2_exchange_1 4 43 rfl)
theorem dX2_exchange_21 : decode cX2_exchange 21 = .ok (.getfield 34, 3) := @dq_o180 cX2_exchange 21 0 34 (qX2_exchange_1 5 180 rfl) (qX2_exchange_1 6 0 rfl) (qX2_exchange_1 7 34 rfl)
theorem dX2_exchange_24 : decode cX2_exchange 24 = .ok (.iconst 1, 1) := @dq_o4 cX2_exchange 24 (qX2_exchange_1 8 4 rfl)
theorem dX2_exchange_25 : decode cX2_exchange 25 = .ok (.isub, 1) := @dq_o100 cX2_exchange 25 (qX2_exchange_1 9 100 rfl)
theorem dX2_exchange_26 : decode cX2_exchange 26 = .ok (.istore 4, 2) := @dq_o54 cX2_exchange 26 4 (qX2_exchange_1 10 54 rfl) (qX2_exchange_1 11 4 rfl)
theorem dX2_exchange_28 : decode cX2_exchange 28 = .ok (.iload 4, 2) := @dq_o21 cX2_exchange 28 4 (qX2_exchange_1 12 21 rfl) (qX2_exchange_1 13 4 rfl)
theorem dX2_exchange_30 : decode cX2_exchange 30 = .ok (.iload_n 2, 1) := @dq_o28 cX2_exchange 30 (qX2_exchange_1 14 28 rfl)
theorem dX2_exchange_31 : decode cX2_exchange 31 = .ok (.if_icmp .le 36, 3) := @dq_o164 cX2_exchange 31 0 36 (qX2_exchange_1 15 164 rfl) (qX2_exchange_2 0 0 rfl) (qX2_exchange_2 1 36 rfl)
theorem dX2_exchange_34 : decode cX2_exchange 34 = .ok (.aload_n 1, 1) := @dq_o43 cX2_exchange 34 (qX2_exchange_2 2 43 rfl)
theorem dX2_exchange_35 : decode cX2_exchange 35 = .ok (.iload_n 2, 1) := @dq_o28 cX2_exchange 35 (qX2_exchange_2 3 28 rfl)
theorem dX2_exchange_36 : decode cX2_exchange 36 = .ok (.iload_n 3, 1) := @dq_o29 cX2_exchange 36 (qX2_exchange_2 4 29 rfl)
theorem dX2_exchange_37 : decode cX2_exchange 37 = .ok (.iload 4, 2) := @dq_o21 cX2_exchange 37 4 (qX2_exchange_2 5 21 rfl) (qX2_exchange_2 6 4 rfl)
theorem dX2_exchange_39 : decode cX2_exchange 39 = .ok (.invokevirtual 39, 3) := @dq_o182 cX2_exchange 39 0 39 (qX2_exchange_2 7 182 rfl) (qX2_exchange_2 8 0 rfl) (qX2_exchange_2 9 39 rfl)
theorem dX2_exchange_42 : decode cX2_exchange 42 = .ok (.istore 5, 2) := @dq_o54 cX2_exchange 42 5 (qX2_exchange_2 10 54 rfl) (qX2_exchange_2 11 5 rfl)
theorem dX2_exchange_44 : decode cX2_exchange 44 = .ok (.iload 5, 2) := @dq_o21 cX2_exchange 44 5 (qX2_exchange_2 12 21 rfl) (qX2_exchange_2 13 5 rfl)
theorem dX2_exchange_46 : decode cX2_exchange 46 = .ok (.ifCond .le 15, 3) := @dq_o158 cX2_exchange 46 0 15 (qX2_exchange_2 14 158 rfl) (qX2_exchange_2 15 0 rfl) (qX2_exchange_3 0 15 rfl)
theorem dX2_exchange_49 : decode cX2_exchange 49 = .ok (.aload_n 0, 1) := @dq_o42 cX2_exchange 49 (qX2_exchange_3 1 42 rfl)
theorem dX2_exchange_50 : decode cX2_exchange 50 = .ok (.iload 4, 2) := @dq_o21 cX2_exchange 50 4 (qX2_exchange_3 2 21 rfl) (qX2_exchange_3 3 4 rfl)
theorem dX2_exchange_52 : decode cX2_exchange 52 = .ok (.invokevirtual 47, 3) := @dq_o182 cX2_exchange 52 0 47 (qX2_exchange_3 4 182 rfl) (qX2_exchange_3 5 0 rfl) (qX2_exchange_3 6 47 rfl)
theorem dX2_exchange_55 : decode cX2_exchange 55 = .ok (.iinc 5 (-1), 3) := @dq_o132 cX2_exchange 55 5 255 (qX2_exchange_3 7 132 rfl) (qX2_exchange_3 8 5 rfl) (qX2_exchange_3 9 255 rfl)
theorem dX2_exchange_58 : decode cX2_exchange 58 = .ok (.goto (-14), 3) := @dq_o167 cX2_exchange 58 255 242 (qX2_exchange_3 10 167 rfl) (qX2_exchange_3 11 255 rfl) (qX2_exchange_3 12 242 rfl)
theorem dX2_exchange_61 : decode cX2_exchange 61 = .ok (.iinc 4 (-1), 3) := @dq_o132 cX2_exchange 61 4 255 (qX2_exchange_3 13 132 rfl) (qX2_exchange_3 14 4 rfl) (qX2_exchange_3 15 255 rfl)
theorem dX2_exchange_64 : decode cX2_exchange 64 = .ok (.goto (-36), 3) := @dq_o167 cX2_exchange 64 255 220 (qX2_exchange_4 0 167 rfl) (qX2_exchange_4 1 255 rfl) (qX2_exchange_4 2 220 rfl)
theorem dX2_exchange_67 : decode cX2_exchange 67 = .ok (.aload_n 0, 1) := @dq_o42 cX2_exchange 67 (qX2_exchange_4 3 42 rfl)
theorem dX2_exchange_68 : decode cX2_exchange 68 = .ok (.iload_n 2, 1) := @dq_o28 cX2_exchange 68 (qX2_exchange_4 4 28 rfl)
theorem dX2_exchange_69 : decode cX2_exchange 69 = .ok (.invokevirtual 47, 3) := @dq_o182 cX2_exchange 69 0 47 (qX2_exchange_4 5 182 rfl) (qX2_exchange_4 6 0 rfl) (qX2_exchange_4 7 47 rfl)
theorem dX2_exchange_72 : decode cX2_exchange 72 = .ok (.aload_n 0, 1) := @dq_o42 cX2_exchange 72 (qX2_exchange_4 8 42 rfl)
theorem dX2_exchange_73 : decode cX2_exchange 73 = .ok (.iload_n 3, 1) := @dq_o29 cX2_exchange 73 (qX2_exchange_4 9 29 rfl)
theorem dX2_exchange_74 : decode cX2_exchange 74 = .ok (.invokevirtual 47, 3) := @dq_o182 cX2_exchange 74 0 47 (qX2_exchange_4 10 182 rfl) (qX2_exchange_4 11 0 rfl) (qX2_exchange_4 12 47 rfl)
theorem dX2_exchange_77 : decode cX2_exchange 77 = .ok (.return_, 1) := @dq_o177 cX2_exchange 77 (qX2_exchange_4 13 177 rfl)
abbrev qaX2_countLetters_0 : List Nat := [42, 180, 0, 31, 3, 184, 0, 61, 3, 60, 27, 42, 180, 0, 22, 162]
abbrev qaX2_countLetters_1 : List Nat := [0, 24, 42, 180, 0, 31, 42, 180, 0, 19, 27, 46, 92, 46, 4, 96]
abbrev qaX2_countLetters_2 : List Nat := [79, 132, 1, 1, 167, 255, 230, 177]
def qtX2_countLetters_3 : List Nat := []
def qtX2_countLetters_2 : List Nat := qaX2_countLetters_2 ++ qtX2_countLetters_3
def qtX2_countLetters_1 : List Nat := qaX2_countLetters_1 ++ qtX2_countLetters_2
def qtX2_countLetters_0 : List Nat := qaX2_countLetters_0 ++ qtX2_countLetters_1
theorem qeX2_countLetters : cX2_countLetters.data.toList.map UInt8.toNat = qtX2_countLetters_0 := by decide +kernel
theorem qsX2_countLetters_0 : ∀ i, dqNth qtX2_countLetters_0 (0 + i) = dqNth qtX2_countLetters_0 i := fun i => by rw [Nat.zero_add]
theorem qsX2_countLetters_1 : ∀ i, dqNth qtX2_countLetters_0 (16 + i) = dqNth qtX2_countLetters_1 i := dq_step qsX2_countLetters_0 rfl rfl
theorem qsX2_countLetters_2 : ∀ i, dqNth qtX2_countLetters_0 (32 + i) = dqNth qtX2_countLetters_2 i := dq_step qsX2_countLetters_1 rfl rfl
theorem qX2_countLetters_0 (i b : Nat) (h : dqNth qaX2_countLetters_0 i = some b) : DqBy cX2_countLetters (0 + i) b := dqBy_of qeX2_countLetters ((qsX2_countLetters_0 i).trans (dq_in h))
theorem qX2_countLetters_1 (i b : Nat) (h : dqNth qaX2_countLetters_1 i = some b) : DqBy cX2_countLetters (16 + i) b := dqBy_of qeX2_countLetters ((qsX2_countLetters_1 i).trans (dq_in h))
theorem qX2_countLetters_2 (i b : Nat) (h : dqNth qaX2_countLetters_2 i = some b) : DqBy cX2_countLetters (32 + i) b := dqBy_of qeX2_countLetters ((qsX2_countLetters_2 i).trans (dq_in h))
theorem dX2_countLetters_0 : decode cX2_countLetters 0 = .ok (.aload_n 0, 1) := @dq_o42 cX2_countLetters 0 (qX2_countLetters_0 0 42 rfl)
theorem dX2_countLetters_1 : decode cX2_countLetters 1 = .ok (.getfield 31, 3) := @dq_o180 cX2_countLetters 1 0 31 (qX2_countLetters_0 1 180 rfl) (qX2_countLetters_0 2 0 rfl) (qX2_countLetters_0 3 31 rfl)
theorem dX2_countLetters_4 : decode cX2_countLetters 4 = .ok (.iconst 0, 1) := @dq_o3 cX2_countLetters 4 (qX2_countLetters_0 4 3 rfl)
theorem dX2_countLetters_5 : decode cX2_countLetters 5 = .ok (.invokestatic 61, 3) := @dq_o184 cX2_countLetters 5 0 61 (qX2_countLetters_0 5 184 rfl) (qX2_countLetters_0 6 0 rfl) (qX2_countLetters_0 7 61 rfl)
theorem dX2_countLetters_8 : decode cX2_countLetters 8 = .ok (.iconst 0, 1) := @dq_o3 cX2_countLetters 8 (qX2_countLetters_0 8 3 rfl)
theorem dX2_countLetters_9 : decode cX2_countLetters 9 = .ok (.istore_n 1, 1) := @dq_o60 cX2_countLetters 9 (qX2_countLetters_0 9 60 rfl)
theorem dX2_countLetters_10 : decode cX2_countLetters 10 = .ok (.iload_n 1, 1) := @dq_o27 cX2_countLetters 10 (qX2_countLetters_0 10 27 rfl)
theorem dX2_countLetters_11 : decode cX2_countLetters 11 = .ok (.aload_n 0, 1) := @dq_o42 cX2_countLetters 11 (qX2_countLetters_0 11 42 rfl)
theorem dX2_countLetters_12 : decode cX2_countLetters 12 = .ok (.getfield 22, 3) := @dq_o180 cX2_countLetters 12 0 22 (qX2_countLetters_0 12 180 rfl) (qX2_countLetters_0 13 0 rfl) (qX2_countLetters_0 14 22 rfl)
theorem dX2_countLetters_15 : decode cX2_countLetters 15 = .ok (.if_icmp .ge 24, 3) := @dq_o162 cX2_countLetters 15 0 24 (qX2_countLetters_0 15 162 rfl) (qX2_countLetters_1 0 0 rfl) (qX2_countLetters_1 1 24 rfl)
theorem dX2_countLetters_18 : decode cX2_countLetters 18 = .ok (.aload_n 0, 1) := @dq_o42 cX2_countLetters 18 (qX2_countLetters_1 2 42 rfl)
theorem dX2_countLetters_19 : decode cX2_countLetters 19 = .ok (.getfield 31, 3) := @dq_o180 cX2_countLetters 19 0 31 (qX2_countLetters_1 3 180 rfl) (qX2_countLetters_1 4 0 rfl) (qX2_countLetters_1 5 31 rfl)
theorem dX2_countLetters_22 : decode cX2_countLetters 22 = .ok (.aload_n 0, 1) := @dq_o42 cX2_countLetters 22 (qX2_countLetters_1 6 42 rfl)
theorem dX2_countLetters_23 : decode cX2_countLetters 23 = .ok (.getfield 19, 3) := @dq_o180 cX2_countLetters 23 0 19 (qX2_countLetters_1 7 180 rfl) (qX2_countLetters_1 8 0 rfl) (qX2_countLetters_1 9 19 rfl)
theorem dX2_countLetters_26 : decode cX2_countLetters 26 = .ok (.iload_n 1, 1) := @dq_o27 cX2_countLetters 26 (qX2_countLetters_1 10 27 rfl)
theorem dX2_countLetters_27 : decode cX2_countLetters 27 = .ok (.iaload, 1) := @dq_o46 cX2_countLetters 27 (qX2_countLetters_1 11 46 rfl)
theorem dX2_countLetters_28 : decode cX2_countLetters 28 = .ok (.dup2, 1) := @dq_o92 cX2_countLetters 28 (qX2_countLetters_1 12 92 rfl)
theorem dX2_countLetters_29 : decode cX2_countLetters 29 = .ok (.iaload, 1) := @dq_o46 cX2_countLetters 29 (qX2_countLetters_1 13 46 rfl)
theorem dX2_countLetters_30 : decode cX2_countLetters 30 = .ok (.iconst 1, 1) := @dq_o4 cX2_countLetters 30 (qX2_countLetters_1 14 4 rfl)
theorem dX2_countLetters_31 : decode cX2_countLetters 31 = .ok (.iadd, 1) := @dq_o96 cX2_countLetters 31 (qX2_countLetters_1 15 96 rfl)
theorem dX2_countLetters_32 : decode cX2_countLetters 32 = .ok (.iastore, 1) := @dq_o79 cX2_countLetters 32 (qX2_countLetters_2 0 79 rfl)
theorem dX2_countLetters_33 : decode cX2_countLetters 33 = .ok (.iinc 1 1, 3) := @dq_o132 cX2_countLetters 33 1 1 (qX2_countLetters_2 1 132 rfl) (qX2_countLetters_2 2 1 rfl) (qX2_countLetters_2 3 1 rfl)
theorem dX2_countLetters_36 : decode cX2_countLetters 36 = .ok (.goto (-26), 3) := @dq_o167 cX2_countLetters 36 255 230 (qX2_countLetters_2 4 167 rfl) (qX2_countLetters_2 5 255 rfl) (qX2_countLetters_2 6 230 rfl)
theorem dX2_countLetters_39 : decode cX2_countLetters 39 = .ok (.return_, 1) := @dq_o177 cX2_countLetters 39 (qX2_countLetters_2 7 177 rfl)
abbrev qaX3_init_0 : List Nat := [42, 183, 0, 3, 42, 3, 181, 0, 9, 42, 16, 6, 16, 6, 197, 0]
abbrev qaX3_init_1 : List Nat := [15, 2, 181, 0, 17, 42, 16, 6, 188, 11, 181, 0, 20, 177]
def qtX3_init_2 : List Nat := []
def qtX3_init_1 : List Nat := qaX3_init_1 ++ qtX3_init_2
def qtX3_init_0 : List Nat := qaX3_init_0 ++ qtX3_init_1
theorem qeX3_init : cX3_init.data.toList.map UInt8.toNat = qtX3_init_0 := by decide +kernel
theorem qsX3_init_0 : ∀ i, dqNth qtX3_init_0 (0 + i) = dqNth qtX3_init_0 i := fun i => by rw [Nat.zero_add]
theorem qsX3_init_1 : ∀ i, dqNth qtX3_init_0 (16 + i) = dqNth qtX3_init_1 i := dq_step qsX3_init_0 rfl rfl
theorem qX3_init_0 (i b : Nat) (h : dqNth qaX3_init_0 i = some b) : DqBy cX3_init (0 + i) b := dqBy_of qeX3_init ((qsX3_init_0 i).trans (dq_in h))
theorem qX3_init_1 (i b : Nat) (h : dqNth qaX3_init_1 i = some b) : DqBy cX3_init (16 + i) b := dqBy_of qeX3_init ((qsX3_init_1 i).trans (dq_in h))
theorem dX3_init_0 : decode cX3_init 0 = .ok (.aload_n 0, 1) := @dq_o42 cX3_init 0 (qX3_init_0 0 42 rfl)
theorem dX3_init_1 : decode cX3_init 1 = .ok (.invokespecial 3, 3) := @dq_o183 cX3_init 1 0 3 (qX3_init_0 1 183 rfl) (qX3_init_0 2 0 rfl) (qX3_init_0 3 3 rfl)
theorem dX3_init_4 : decode cX3_init 4 = .ok (.aload_n 0, 1) := @dq_o42 cX3_init 4 (qX3_init_0 4 42 rfl)
theorem dX3_init_5 : decode cX3_init 5 = .ok (.iconst 0, 1) := @dq_o3 cX3_init 5 (qX3_init_0 5 3 rfl)
theorem dX3_init_6 : decode cX3_init 6 = .ok (.putfield 9, 3) := @dq_o181 cX3_init 6 0 9 (qX3_init_0 6 181 rfl) (qX3_init_0 7 0 rfl) (qX3_init_0 8 9 rfl)
theorem dX3_init_9 : decode cX3_init 9 = .ok (.aload_n 0, 1) := @dq_o42 cX3_init 9 (qX3_init_0 9 42 rfl)
theorem dX3_init_10 : decode cX3_init 10 = .ok (.bipush 6, 2) := @dq_o16 cX3_init 10 6 (qX3_init_0 10 16 rfl) (qX3_init_0 11 6 rfl)
theorem dX3_init_12 : decode cX3_init 12 = .ok (.bipush 6, 2) := @dq_o16 cX3_init 12 6 (qX3_init_0 12 16 rfl) (qX3_init_0 13 6 rfl)
theorem dX3_init_14 : decode cX3_init 14 = .ok (.multianewarray 15 2, 4) := by decide +kernel
theorem dX3_init_18 : decode cX3_init 18 = .ok (.putfield 17, 3) := @dq_o181 cX3_init 18 0 17 (qX3_init_1 2 181 rfl) (qX3_init_1 3 0 rfl) (qX3_init_1 4 17 rfl)
theorem dX3_init_21 : decode cX3_init 21 = .ok (.aload_n 0, 1) := @dq_o42 cX3_init 21 (qX3_init_1 5 42 rfl)
theorem dX3_init_22 : decode cX3_init 22 = .ok (.bipush 6, 2) := @dq_o16 cX3_init 22 6 (qX3_init_1 6 16 rfl) (qX3_init_1 7 6 rfl)
theorem dX3_init_24 : decode cX3_init 24 = .ok (.newarray .long, 2) := by decide +kernel
theorem dX3_init_26 : decode cX3_init 26 = .ok (.putfield 20, 3) := @dq_o181 cX3_init 26 0 20 (qX3_init_1 10 181 rfl) (qX3_init_1 11 0 rfl) (qX3_init_1 12 20 rfl)
theorem dX3_init_29 : decode cX3_init 29 = .ok (.return_, 1) := @dq_o177 cX3_init 29 (qX3_init_1 13 177 rfl)
abbrev qaX3_clear_0 : List Nat := [42, 3, 27, 16, 6, 184, 0, 24, 184, 0, 30, 181, 0, 9, 3, 61]
abbrev qaX3_clear_1 : List Nat := [28, 16, 6, 162, 0, 19, 42, 180, 0, 17, 28, 50, 9, 184, 0, 33]
abbrev qaX3_clear_2 : List Nat := [132, 2, 1, 167, 255, 237, 177]
def qtX3_clear_3 : List Nat := []
def qtX3_clear_2 : List Nat := qaX3_clear_2 ++ qtX3_clear_3
def qtX3_clear_1 : List Nat := qaX3_clear_1 ++ qtX3_clear_2
def qtX3_clear_0 : List Nat := qaX3_clear_0 ++ qtX3_clear_1
theorem qeX3_clear : cX3_clear.data.toList.map UInt8.toNat = qtX3_clear_0 := by decide +kernel
theorem qsX3_clear_0 : ∀ i, dqNth qtX3_clear_0 (0 + i) = dqNth qtX3_clear_0 i := fun i => by rw [Nat.zero_add]
theorem qsX3_clear_1 : ∀ i, dqNth qtX3_clear_0 (16 + i) = dqNth qtX3_clear_1 i := dq_step qsX3_clear_0 rfl rfl
theorem qsX3_clear_2 : ∀ i, dqNth qtX3_clear_0 (32 + i) = dqNth qtX3_clear_2 i := dq_step qsX3_clear_1 rfl rfl
theorem qX3_clear_0 (i b : Nat) (h : dqNth qaX3_clear_0 i = some b) : DqBy cX3_clear (0 + i) b := dqBy_of qeX3_clear ((qsX3_clear_0 i).trans (dq_in h))
theorem qX3_clear_1 (i b : Nat) (h : dqNth qaX3_clear_1 i = some b) : DqBy cX3_clear (16 + i) b := dqBy_of qeX3_clear ((qsX3_clear_1 i).trans (dq_in h))
theorem qX3_clear_2 (i b : Nat) (h : dqNth qaX3_clear_2 i = some b) : DqBy cX3_clear (32 + i) b := dqBy_of qeX3_clear ((qsX3_clear_2 i).trans (dq_in h))
theorem dX3_clear_0 : decode cX3_clear 0 = .ok (.aload_n 0, 1) := @dq_o42 cX3_clear 0 (qX3_clear_0 0 42 rfl)
theorem dX3_clear_1 : decode cX3_clear 1 = .ok (.iconst 0, 1) := @dq_o3 cX3_clear 1 (qX3_clear_0 1 3 rfl)
theorem dX3_clear_2 : decode cX3_clear 2 = .ok (.iload_n 1, 1) := @dq_o27 cX3_clear 2 (qX3_clear_0 2 27 rfl)
theorem dX3_clear_3 : decode cX3_clear 3 = .ok (.bipush 6, 2) := @dq_o16 cX3_clear 3 6 (qX3_clear_0 3 16 rfl) (qX3_clear_0 4 6 rfl)
theorem dX3_clear_5 : decode cX3_clear 5 = .ok (.invokestatic 24, 3) := @dq_o184 cX3_clear 5 0 24 (qX3_clear_0 5 184 rfl) (qX3_clear_0 6 0 rfl) (qX3_clear_0 7 24 rfl)
theorem dX3_clear_8 : decode cX3_clear 8 = .ok (.invokestatic 30, 3) := @dq_o184 cX3_clear 8 0 30 (qX3_clear_0 8 184 rfl) (qX3_clear_0 9 0 rfl) (qX3_clear_0 10 30 rfl)
theorem dX3_clear_11 : decode cX3_clear 11 = .ok (.putfield 9, 3) := @dq_o181 cX3_clear 11 0 9 (qX3_clear_0 11 181 rfl) (qX3_clear_0 12 0 rfl) (qX3_clear_0 13 9 rfl)
theorem dX3_clear_14 : decode cX3_clear 14 = .ok (.iconst 0, 1) := @dq_o3 cX3_clear 14 (qX3_clear_0 14 3 rfl)
theorem dX3_clear_15 : decode cX3_clear 15 = .ok (.istore_n 2, 1) := @dq_o61 cX3_clear 15 (qX3_clear_0 15 61 rfl)
theorem dX3_clear_16 : decode cX3_clear 16 = .ok (.iload_n 2, 1) := @dq_o28 cX3_clear 16 (qX3_clear_1 0 28 rfl)
theorem dX3_clear_17 : decode cX3_clear 17 = .ok (.bipush 6, 2) := @dq_o16 cX3_clear 17 6 (qX3_clear_1 1 16 rfl) (qX3_clear_1 2 6 rfl)
theorem dX3_clear_19 : decode cX3_clear 19 = .ok (.if_icmp .ge 19, 3) := @dq_o162 cX3_clear 19 0 19 (qX3_clear_1 3 162 rfl) (qX3_clear_1 4 0 rfl) (qX3_clear_1 5 19 rfl)
theorem dX3_clear_22 : decode cX3_clear 22 = .ok (.aload_n 0, 1) := @dq_o42 cX3_clear 22 (qX3_clear_1 6 42 rfl)
theorem dX3_clear_23 : decode cX3_clear 23 = .ok (.getfield 17, 3) := @dq_o180 cX3_clear 23 0 17 (qX3_clear_1 7 180 rfl) (qX3_clear_1 8 0 rfl) (qX3_clear_1 9 17 rfl)
theorem dX3_clear_26 : decode cX3_clear 26 = .ok (.iload_n 2, 1) := @dq_o28 cX3_clear 26 (qX3_clear_1 10 28 rfl)
theorem dX3_clear_27 : decode cX3_clear 27 = .ok (.aaload, 1) := @dq_o50 cX3_clear 27 (qX3_clear_1 11 50 rfl)
theorem dX3_clear_28 : decode cX3_clear 28 = .ok (.lconst 0, 1) := @dq_o9 cX3_clear 28 (qX3_clear_1 12 9 rfl)
theorem dX3_clear_29 : decode cX3_clear 29 = .ok (.invokestatic 33, 3) := @dq_o184 cX3_clear 29 0 33 (qX3_clear_1 13 184 rfl) (qX3_clear_1 14 0 rfl) (qX3_clear_1 15 33 rfl)
theorem dX3_clear_32 : decode cX3_clear 32 = .ok (.iinc 2 1, 3) := @dq_o132 cX3_clear 32 2 1 (qX3_clear_2 0 132 rfl) (qX3_clear_2 1 2 rfl) (qX3_clear_2 2 1 rfl)
theorem dX3_clear_35 : decode cX3_clear 35 = .ok (.goto (-19), 3) := @dq_o167 cX3_clear 35 255 237 (qX3_clear_2 3 167 rfl) (qX3_clear_2 4 255 rfl) (qX3_clear_2 5 237 rfl)
theorem dX3_clear_38 : decode cX3_clear 38 = .ok (.return_, 1) := @dq_o177 cX3_clear 38 (qX3_clear_2 6 177 rfl)
abbrev qaX3_hasStep_0 : List Nat := [27, 155, 0, 28, 27, 42, 180, 0, 9, 162, 0, 20, 42, 180, 0, 17]
abbrev qaX3_hasStep_1 : List Nat := [27, 50, 27, 47, 9, 148, 153, 0, 7, 4, 167, 0, 4, 3, 172]
def qtX3_hasStep_2 : List Nat := []
def qtX3_hasStep_1 : List Nat := qaX3_hasStep_1 ++ qtX3_hasStep_2
def qtX3_hasStep_0 : List Nat := qaX3_hasStep_0 ++ qtX3_hasStep_1
theorem qeX3_hasStep : cX3_hasStep.data.toList.map UInt8.toNat = qtX3_hasStep_0 := by decide +kernel
theorem qsX3_hasStep_0 : ∀ i, dqNth qtX3_hasStep_0 (0 + i) = dqNth qtX3_hasStep_0 i := fun i => by rw [Nat.zero_add]
theorem qsX3_hasStep_1 : ∀ i, dqNth qtX3_hasStep_0 (16 + i) = dqNth qtX3_hasStep_1 i := dq_step qsX3_hasStep_0 rfl rfl
theorem qX3_hasStep_0 (i b : Nat) (h : dqNth qaX3_hasStep_0 i = some b) : DqBy cX3_hasStep (0 + i) b := dqBy_of qeX3_hasStep ((qsX3_hasStep_0 i).trans (dq_in h))
theorem qX3_hasStep_1 (i b : Nat) (h : dqNth qaX3_hasStep_1 i = some b) : DqBy cX3_hasStep (16 + i) b := dqBy_of qeX3_hasStep ((qsX3_hasStep_1 i).trans (dq_in h))
theorem dX3_hasStep_0 : decode cX3_hasStep 0 = .ok (.iload_n 1, 1) := @dq_o27 cX3_hasStep 0 (qX3_hasStep_0 0 27 rfl)
theorem dX3_hasStep_1 : decode cX3_hasStep 1 = .ok (.ifCond .lt 28, 3) := @dq_o155 cX3_hasStep 1 0 28 (qX3_hasStep_0 1 155 rfl) (qX3_hasStep_0 2 0 rfl) (qX3_hasStep_0 3 28 rfl)
theorem dX3_hasStep_4 : decode cX3_hasStep 4 = .ok (.iload_n 1, 1) := @dq_o27 cX3_hasStep 4 (qX3_hasStep_0 4 27 rfl)
theorem dX3_hasStep_5 : decode cX3_hasStep 5 = .ok (.aload_n 0, 1) := @dq_o42 cX3_hasStep 5 (qX3_hasStep_0 5 42 rfl)
theorem dX3_hasStep_6 : decode cX3_hasStep 6 = .ok (.getfield 9, 3) := @dq_o180 cX3_hasStep 6 0 9 (qX3_hasStep_0 6 180 rfl) (qX3_hasStep_0 7 0 rfl) (qX3_hasStep_0 8 9 rfl)
theorem dX3_hasStep_9 : decode cX3_hasStep 9 = .ok (.if_icmp .ge 20, 3) := @dq_o162 cX3_hasStep 9 0 20 (qX3_hasStep_0 9 162 rfl) (qX3_hasStep_0 10 0 rfl) (qX3_hasStep_0 11 20 rfl)
theorem dX3_hasStep_12 : decode cX3_hasStep 12 = .ok (.aload_n 0, 1) := @dq_o42 cX3_hasStep 12 (qX3_hasStep_0 12 42 rfl)
theorem dX3_hasStep_13 : decode cX3_hasStep 13 = .ok (.getfield 17, 3) := @dq_o180 cX3_hasStep 13 0 17 (qX3_hasStep_0 13 180 rfl) (qX3_hasStep_0 14 0 rfl) (qX3_hasStep_0 15 17 rfl)
theorem dX3_hasStep_16 : decode cX3_hasStep 16 = .ok (.iload_n 1, 1) := @dq_o27 cX3_hasStep 16 (qX3_hasStep_1 0 27 rfl)
theorem dX3_hasStep_17 : decode cX3_hasStep 17 = .ok (.aaload, 1) := @dq_o50 cX3_hasStep 17 (qX3_hasStep_1 1 50 rfl)
theorem dX3_hasStep_18 : decode cX3_hasStep 18 = .ok (.iload_n 1, 1) := @dq_o27 cX3_hasStep 18 (qX3_hasStep_1 2 27 rfl)
theorem dX3_hasStep_19 : decode cX3_hasStep 19 = .ok (.laload, 1) := @dq_o47 cX3_hasStep 19 (qX3_hasStep_1 3 47 rfl)
theorem dX3_hasStep_20 : decode cX3_hasStep 20 = .ok (.lconst 0, 1) := @dq_o9 cX3_hasStep 20 (qX3_hasStep_1 4 9 rfl)
theorem dX3_hasStep_21 : decode cX3_hasStep 21 = .ok (.lcmp, 1) := @dq_o148 cX3_hasStep 21 (qX3_hasStep_1 5 148 rfl)
theorem dX3_hasStep_22 : decode cX3_hasStep 22 = .ok (.ifCond .eq 7, 3) := @dq_o153 cX3_hasStep 22 0 7 (qX3_hasStep_1 6 153 rfl) (qX3_hasStep_1 7 0 rfl) (qX3_hasStep_1 8 7 rfl)
theorem dX3_hasStep_25 : decode cX3_hasStep 25 = .ok (.iconst 1, 1) := @dq_o4 cX3_hasStep 25 (qX3_hasStep_1 9 4 rfl)
theorem dX3_hasStep_26 : decode cX3_hasStep 26 = .ok (.goto 4, 3) := @dq_o167 cX3_hasStep 26 0 4 (qX3_hasStep_1 10 167 rfl) (qX3_hasStep_1 11 0 rfl) (qX3_hasStep_1 12 4 rfl)
theorem dX3_hasStep_29 : decode cX3_hasStep 29 = .ok (.iconst 0, 1) := @dq_o3 cX3_hasStep 29 (qX3_hasStep_1 13 3 rfl)
theorem dX3_hasStep_30 : decode cX3_hasStep 30 = .ok (.ireturn, 1) := @dq_o172 cX3_hasStep 30 (qX3_hasStep_1 14 172 rfl)
abbrev qaX3_insert_0 : List Nat := [43, 42, 180, 0, 20, 184, 0, 39, 3, 61, 28, 42, 180, 0, 9, 162]
abbrev qaX3_insert_1 : List Nat := [0, 37, 42, 28, 182, 0, 45, 42, 180, 0, 17, 28, 50, 28, 47, 9]
abbrev qaX3_insert_2 : List Nat := [148, 156, 0, 13, 42, 42, 180, 0, 17, 28, 50, 182, 0, 49, 132, 2]
abbrev qaX3_insert_3 : List Nat := [1, 167, 255, 217, 42, 182, 0, 53, 177]
def qtX3_insert_4 : List Nat := []
def qtX3_insert_3 : List Nat := qaX3_insert_3 ++ qtX3_insert_4
def qtX3_insert_2 : List Nat := qaX3_insert_2 ++ qtX3_insert_3
def qtX3_insert_1 : List Nat := qaX3_insert_1 ++ qtX3_insert_2
def qtX3_insert_0 : List Nat := qaX3_insert_0 ++ qtX3_insert_1
theorem qeX3_insert : cX3_insert.data.toList.map UInt8.toNat = qtX3_insert_0 := by decide +kernel
theorem qsX3_insert_0 : ∀ i, dqNth qtX3_insert_0 (0 + i) = dqNth qtX3_insert_0 i := fun i => by rw [Nat.zero_add]
theorem qsX3_insert_1 : ∀ i, dqNth qtX3_insert_0 (16 + i) = dqNth qtX3_insert_1 i := dq_step qsX3_insert_0 rfl rfl
theorem qsX3_insert_2 : ∀ i, dqNth qtX3_insert_0 (32 + i) = dqNth qtX3_insert_2 i := dq_step qsX3_insert_1 rfl rfl
theorem qsX3_insert_3 : ∀ i, dqNth qtX3_insert_0 (48 + i) = dqNth qtX3_insert_3 i := dq_step qsX3_insert_2 rfl rfl
theorem qX3_insert_0 (i b : Nat) (h : dqNth qaX3_insert_0 i = some b) : DqBy cX3_insert (0 + i) b := dqBy_of qeX3_insert ((qsX3_insert_0 i).trans (dq_in h))
theorem qX3_insert_1 (i b : Nat) (h : dqNth qaX3_insert_1 i = some b) : DqBy cX3_insert (16 + i) b := dqBy_of qeX3_insert ((qsX3_insert_1 i).trans (dq_in h))
theorem qX3_insert_2 (i b : Nat) (h : dqNth qaX3_insert_2 i = some b) : DqBy cX3_insert (32 + i) b := dqBy_of qeX3_insert ((qsX3_insert_2 i).trans (dq_in h))
theorem qX3_insert_3 (i b : Nat) (h : dqNth qaX3_insert_3 i = some b) : DqBy cX3_insert (48 + i) b := dqBy_of qeX3_insert ((qsX3_insert_3 i).trans (dq_in h))
theorem dX3_insert_0 : decode cX3_insert 0 = .ok (.aload_n 1, 1) := @dq_o43 cX3_insert 0 (qX3_insert_0 0 43 rfl)
theorem dX3_insert_1 : decode cX3_insert 1 = .ok (.aload_n 0, 1) := @dq_o42 cX3_insert 1 (qX3_insert_0 1 42 rfl)
theorem dX3_insert_2 : decode cX3_insert 2 = .ok (.getfield 20, 3) := @dq_o180 cX3_insert 2 0 20 (qX3_insert_0 2 180 rfl) (qX3_insert_0 3 0 rfl) (qX3_insert_0 4 20 rfl)
theorem dX3_insert_5 : decode cX3_insert 5 = .ok (.invokestatic 39, 3) := @dq_o184 cX3_insert 5 0 39 (qX3_insert_0 5 184 rfl) (qX3_insert_0 6 0 rfl) (qX3_insert_0 7 39 rfl)
theorem dX3_insert_8 : decode cX3_insert 8 = .ok (.iconst 0, 1) := @dq_o3 cX3_insert 8 (qX3_insert_0 8 3 rfl)
theorem dX3_insert_9 : decode cX3_insert 9 = .ok (.istore_n 2, 1) := @dq_o61 cX3_insert 9 (qX3_insert_0 9 61 rfl)
theorem dX3_insert_10 : decode cX3_insert 10 = .ok (.iload_n 2, 1) := @dq_o28 cX3_insert 10 (qX3_insert_0 10 28 rfl)
theorem dX3_insert_11 : decode cX3_insert 11 = .ok (.aload_n 0, 1) := @dq_o42 cX3_insert 11 (qX3_insert_0 11 42 rfl)
theorem dX3_insert_12 : decode cX3_insert 12 = .ok (.getfield 9, 3) := @dq_o180 cX3_insert 12 0 9 (qX3_insert_0 12 180 rfl) (qX3_insert_0 13 0 rfl) (qX3_insert_0 14 9 rfl)
theorem dX3_insert_15 : decode cX3_insert 15 = .ok (.if_icmp .ge 37, 3) := @dq_o162 cX3_insert 15 0 37 (qX3_insert_0 15 162 rfl) (qX3_insert_1 0 0 rfl) (qX3_insert_1 1 37 rfl)
theorem dX3_insert_18 : decode cX3_insert 18 = .ok (.aload_n 0, 1) := @dq_o42 cX3_insert 18 (qX3_insert_1 2 42 rfl)
theorem dX3_insert_19 : decode cX3_insert 19 = .ok (.iload_n 2, 1) := @dq_o28 cX3_insert 19 (qX3_insert_1 3 28 rfl)
theorem dX3_insert_20 : decode cX3_insert 20 = .ok (.invokevirtual 45, 3) := @dq_o182 cX3_insert 20 0 45 (qX3_insert_1 4 182 rfl) (qX3_insert_1 5 0 rfl) (qX3_insert_1 6 45 rfl)
theorem dX3_insert_23 : decode cX3_insert 23 = .ok (.aload_n 0, 1) := @dq_o42 cX3_insert 23 (qX3_insert_1 7 42 rfl)
theorem dX3_insert_24 : decode cX3_insert 24 = .ok (.getfield 17, 3) := @dq_o180 cX3_insert 24 0 17 (qX3_insert_1 8 180 rfl) (qX3_insert_1 9 0 rfl) (qX3_insert_1 10 17 rfl)
theorem dX3_insert_27 : decode cX3_insert 27 = .ok (.iload_n 2, 1) := @dq_o28 cX3_insert 27 (qX3_insert_1 11 28 rfl)
theorem dX3_insert_28 : decode cX3_insert 28 = .ok (.aaload, 1) := @dq_o50 cX3_insert 28 (qX3_insert_1 12 50 rfl)
theorem dX3_insert_29 : decode cX3_insert 29 = .ok (.iload_n 2, 1) := @dq_o28 cX3_insert 29 (qX3_insert_1 13 28 rfl)
theorem dX3_insert_30 : decode cX3_insert 30 = .ok (.laload, 1) := @dq_o47 cX3_insert 30 (qX3_insert_1 14 47 rfl)
theorem dX3_insert_31 : decode cX3_insert 31 = .ok (.lconst 0, 1) := @dq_o9 cX3_insert 31 (qX3_insert_1 15 9 rfl)
theorem dX3_insert_32 : decode cX3_insert 32 = .ok (.lcmp, 1) := @dq_o148 cX3_insert 32 (qX3_insert_2 0 148 rfl)
theorem dX3_insert_33 : decode cX3_insert 33 = .ok (.ifCond .ge 13, 3) := @dq_o156 cX3_insert 33 0 13 (qX3_insert_2 1 156 rfl) (qX3_insert_2 2 0 rfl) (qX3_insert_2 3 13 rfl)
theorem dX3_insert_36 : decode cX3_insert 36 = .ok (.aload_n 0, 1) := @dq_o42 cX3_insert 36 (qX3_insert_2 4 42 rfl)
theorem dX3_insert_37 : decode cX3_insert 37 = .ok (.aload_n 0, 1) := @dq_o42 cX3_insert 37 (qX3_insert_2 5 42 rfl)
theorem dX3_insert_38 : decode cX3_insert 38 = .ok (.getfield 17, 3) := @dq_o180 cX3_insert 38 0 17 (qX3_insert_2 6 180 rfl) (qX3_insert_2 7 0 rfl) (qX3_insert_2 8 17 rfl)
theorem dX3_insert_41 : decode cX3_insert 41 = .ok (.iload_n 2, 1) := @dq_o28 cX3_insert 41 (qX3_insert_2 9 28 rfl)
theorem dX3_insert_42 : decode cX3_insert 42 = .ok (.aaload, 1) := @dq_o50 cX3_insert 42 (qX3_insert_2 10 50 rfl)
theorem dX3_insert_43 : decode cX3_insert 43 = .ok (.invokevirtual 49, 3) := @dq_o182 cX3_insert 43 0 49 (qX3_insert_2 11 182 rfl) (qX3_insert_2 12 0 rfl) (qX3_insert_2 13 49 rfl)
theorem dX3_insert_46 : decode cX3_insert 46 = .ok (.iinc 2 1, 3) := @dq_o132 cX3_insert 46 2 1 (qX3_insert_2 14 132 rfl) (qX3_insert_2 15 2 rfl) (qX3_insert_3 0 1 rfl)
theorem dX3_insert_49 : decode cX3_insert 49 = .ok (.goto (-39), 3) := @dq_o167 cX3_insert 49 255 217 (qX3_insert_3 1 167 rfl) (qX3_insert_3 2 255 rfl) (qX3_insert_3 3 217 rfl)
theorem dX3_insert_52 : decode cX3_insert 52 = .ok (.aload_n 0, 1) := @dq_o42 cX3_insert 52 (qX3_insert_3 4 42 rfl)
theorem dX3_insert_53 : decode cX3_insert 53 = .ok (.invokevirtual 53, 3) := @dq_o182 cX3_insert 53 0 53 (qX3_insert_3 5 182 rfl) (qX3_insert_3 6 0 rfl) (qX3_insert_3 7 53 rfl)
theorem dX3_insert_56 : decode cX3_insert 56 = .ok (.return_, 1) := @dq_o177 cX3_insert 56 (qX3_insert_3 8 177 rfl)
abbrev qaX3_reduce_0 : List Nat := [4, 61, 3, 62, 29, 42, 180, 0, 9, 162, 0, 33, 42, 43, 29, 182]
abbrev qaX3_reduce_1 : List Nat := [0, 56, 28, 153, 0, 15, 43, 29, 47, 9, 148, 154, 0, 7, 4, 167]
abbrev qaX3_reduce_2 : List Nat := [0, 4, 3, 61, 132, 3, 1, 167, 255, 221, 28, 172]
def qtX3_reduce_3 : List Nat := []
def qtX3_reduce_2 : List Nat := qaX3_reduce_2 ++ qtX3_reduce_3
def qtX3_reduce_1 : List Nat := qaX3_reduce_1 ++ qtX3_reduce_2
def qtX3_reduce_0 : List Nat := qaX3_reduce_0 ++ qtX3_reduce_1
theorem qeX3_reduce : cX3_reduce.data.toList.map UInt8.toNat = qtX3_reduce_0 := by decide +kernel
theorem qsX3_reduce_0 : ∀ i, dqNth qtX3_reduce_0 (0 + i) = dqNth qtX3_reduce_0 i := fun i => by rw [Nat.zero_add]
theorem qsX3_reduce_1 : ∀ i, dqNth qtX3_reduce_0 (16 + i) = dqNth qtX3_reduce_1 i := dq_step qsX3_reduce_0 rfl rfl
theorem qsX3_reduce_2 : ∀ i, dqNth qtX3_reduce_0 (32 + i) = dqNth qtX3_reduce_2 i := dq_step qsX3_reduce_1 rfl rfl
theorem qX3_reduce_0 (i b : Nat) (h : dqNth qaX3_reduce_0 i = some b) : DqBy cX3_reduce (0 + i) b := dqBy_of qeX3_reduce ((qsX3_reduce_0 i).trans (dq_in h))
theorem qX3_reduce_1 (i b : Nat) (h : dqNth qaX3_reduce_1 i = some b) : DqBy cX3_reduce (16 + i) b := dqBy_of qeX3_reduce ((qsX3_reduce_1 i).trans (dq_in h))
theorem qX3_reduce_2 (i b : Nat) (h : dqNth qaX3_reduce_2 i = some b) : DqBy cX3_reduce (32 + i) b := dqBy_of qeX3_reduce ((qsX3_reduce_2 i).trans (dq_in h))
theorem dX3_reduce_0 : decode cX3_reduce 0 = .ok (.iconst 1, 1) := @dq_o4 cX3_reduce 0 (qX3_reduce_0 0 4 rfl)
theorem dX3_reduce_1 : decode cX3_reduce 1 = .ok (.istore_n 2, 1) := @dq_o61 cX3_reduce 1 (qX3_reduce_0 1 61 rfl)
theorem dX3_reduce_2 : decode cX3_reduce 2 = .ok (.iconst 0, 1) := @dq_o3 cX3_reduce 2 (qX3_reduce_0 2 3 rfl)
theorem dX3_reduce_3 : decode cX3_reduce 3 = .ok (.istore_n 3, 1) := @dq_o62 cX3_reduce 3 (qX3_reduce_0 3 62 rfl)
theorem dX3_reduce_4 : decode cX3_reduce 4 = .ok (.iload_n 3, 1) := @dq_o29 cX3_reduce 4 (qX3_reduce_0 4 29 rfl)
theorem dX3_reduce_5 : decode cX3_reduce 5 = .ok (.aload_n 0, 1) := @dq_o42 cX3_reduce 5 (qX3_reduce_0 5 42 rfl)
theorem dX3_reduce_6 : decode cX3_reduce 6 = .ok (.getfield 9, 3) := @dq_o180 cX3_reduce 6 0 9 (qX3_reduce_0 6 180 rfl) (qX3_reduce_0 7 0 rfl) (qX3_reduce_0 8 9 rfl)
theorem dX3_reduce_9 : decode cX3_reduce 9 = .ok (.if_icmp .ge 33, 3) := @dq_o162 cX3_reduce 9 0 33 (qX3_reduce_0 9 162 rfl) (qX3_reduce_0 10 0 rfl) (qX3_reduce_0 11 33 rfl)
theorem dX3_reduce_12 : decode cX3_reduce 12 = .ok (.aload_n 0, 1) := @dq_o42 cX3_reduce 12 (qX3_reduce_0 12 42 rfl)
theorem dX3_reduce_13 : decode cX3_reduce 13 = .ok (.aload_n 1, 1) := @dq_o43 cX3_reduce 13 (qX3_reduce_0 13 43 rfl)
theorem dX3_reduce_14 : decode cX3_reduce 14 = .ok (.iload_n 3, 1) := @dq_o29 cX3_reduce 14 (qX3_reduce_0 14 29 rfl)
theorem dX3_reduce_15 : decode cX3_reduce 15 = .ok (.invokevirtual 56, 3) := @dq_o182 cX3_reduce 15 0 56 (qX3_reduce_0 15 182 rfl) (qX3_reduce_1 0 0 rfl) (qX3_reduce_1 1 56 rfl)
theorem dX3_reduce_18 : decode cX3_reduce 18 = .ok (.iload_n 2, 1) := @dq_o28 cX3_reduce 18 (qX3_reduce_1 2 28 rfl)
theorem dX3_reduce_19 : decode cX3_reduce 19 = .ok (.ifCond .eq 15, 3) := @dq_o153 cX3_reduce 19 0 15 (qX3_reduce_1 3 153 rfl) (qX3_reduce_1 4 0 rfl) (qX3_reduce_1 5 15 rfl)
theorem dX3_reduce_22 : decode cX3_reduce 22 = .ok (.aload_n 1, 1) := @dq_o43 cX3_reduce 22 (qX3_reduce_1 6 43 rfl)
theorem dX3_reduce_23 : decode cX3_reduce 23 = .ok (.iload_n 3, 1) := @dq_o29 cX3_reduce 23 (qX3_reduce_1 7 29 rfl)
theorem dX3_reduce_24 : decode cX3_reduce 24 = .ok (.laload, 1) := @dq_o47 cX3_reduce 24 (qX3_reduce_1 8 47 rfl)
theorem dX3_reduce_25 : decode cX3_reduce 25 = .ok (.lconst 0, 1) := @dq_o9 cX3_reduce 25 (qX3_reduce_1 9 9 rfl)
theorem dX3_reduce_26 : decode cX3_reduce 26 = .ok (.lcmp, 1) := @dq_o148 cX3_reduce 26 (qX3_reduce_1 10 148 rfl)
theorem dX3_reduce_27 : decode cX3_reduce 27 = .ok (.ifCond .ne 7, 3) := @dq_o154 cX3_reduce 27 0 7 (qX3_reduce_1 11 154 rfl) (qX3_reduce_1 12 0 rfl) (qX3_reduce_1 13 7 rfl)
theorem dX3_reduce_30 : decode cX3_reduce 30 = .ok (.iconst 1, 1) := @dq_o4 cX3_reduce 30 (qX3_reduce_1 14 4 rfl)
theorem dX3_reduce_31 : decode cX3_reduce 31 = .ok (.goto 4, 3) := @dq_o167 cX3_reduce 31 0 4 (qX3_reduce_1 15 167 rfl) (qX3_reduce_2 0 0 rfl) (qX3_reduce_2 1 4 rfl)
theorem dX3_reduce_34 : decode cX3_reduce 34 = .ok (.iconst 0, 1) := @dq_o3 cX3_reduce 34 (qX3_reduce_2 2 3 rfl)
theorem dX3_reduce_35 : decode cX3_reduce 35 = .ok (.istore_n 2, 1) := @dq_o61 cX3_reduce 35 (qX3_reduce_2 3 61 rfl)
theorem dX3_reduce_36 : decode cX3_reduce 36 = .ok (.iinc 3 1, 3) := @dq_o132 cX3_reduce 36 3 1 (qX3_reduce_2 4 132 rfl) (qX3_reduce_2 5 3 rfl) (qX3_reduce_2 6 1 rfl)
theorem dX3_reduce_39 : decode cX3_reduce 39 = .ok (.goto (-35), 3) := @dq_o167 cX3_reduce 39 255 221 (qX3_reduce_2 7 167 rfl) (qX3_reduce_2 8 255 rfl) (qX3_reduce_2 9 221 rfl)
theorem dX3_reduce_42 : decode cX3_reduce 42 = .ok (.iload_n 2, 1) := @dq_o28 cX3_reduce 42 (qX3_reduce_2 10 28 rfl)
theorem dX3_reduce_43 : decode cX3_reduce 43 = .ok (.ireturn, 1) := @dq_o172 cX3_reduce 43 (qX3_reduce_2 11 172 rfl)
abbrev qaX3_takeStep_0 : List Nat := [42, 180, 0, 17, 28, 50, 28, 47, 9, 148, 153, 0, 28, 42, 43, 42]
abbrev qaX3_takeStep_1 : List Nat := [180, 0, 17, 28, 50, 43, 28, 47, 42, 180, 0, 17, 28, 50, 28, 47]
abbrev qaX3_takeStep_2 : List Nat := [184, 0, 60, 182, 0, 64, 177]
def qtX3_takeStep_3 : List Nat := []
def qtX3_takeStep_2 : List Nat := qaX3_takeStep_2 ++ qtX3_takeStep_3
def qtX3_takeStep_1 : List Nat := qaX3_takeStep_1 ++ qtX3_takeStep_2
def qtX3_takeStep_0 : List Nat := qaX3_takeStep_0 ++ qtX3_takeStep_1
theorem qeX3_takeStep : cX3_takeStep.data.toList.map UInt8.toNat = qtX3_takeStep_0 := by decide +kernel
theorem qsX3_takeStep_0 : ∀ i, dqNth qtX3_takeStep_0 (0 + i) = dqNth qtX3_takeStep_0 i := fun i => by rw [Nat.zero_add]
theorem qsX3_takeStep_1 : ∀ i, dqNth qtX3_takeStep_0 (16 + i) = dqNth qtX3_takeStep_1 i := dq_step qsX3_takeStep_0 rfl rfl
theorem qsX3_takeStep_2 : ∀ i, dqNth qtX3_takeStep_0 (32 + i) = dqNth qtX3_takeStep_2 i := dq_step qsX3_takeStep_1 rfl rfl
theorem qX3_takeStep_0 (i b : Nat) (h : dqNth qaX3_takeStep_0 i = some b) : DqBy cX3_takeStep (0 + i) b := dqBy_of qeX3_takeStep ((qsX3_takeStep_0 i).trans (dq_in h))
theorem qX3_takeStep_1 (i b : Nat) (h : dqNth qaX3_takeStep_1 i = some b) : DqBy cX3_takeStep (16 + i) b := dqBy_of qeX3_takeStep ((qsX3_takeStep_1 i).trans (dq_in h))
theorem qX3_takeStep_2 (i b : Nat) (h : dqNth qaX3_takeStep_2 i = some b) : DqBy cX3_takeStep (32 + i) b := dqBy_of qeX3_takeStep ((qsX3_takeStep_2 i).trans (dq_in h))
theorem dX3_takeStep_0 : decode cX3_takeStep 0 = .ok (.aload_n 0, 1) := @dq_o42 cX3_takeStep 0 (qX3_takeStep_0 0 42 rfl)
theorem dX3_takeStep_1 : decode cX3_takeStep 1 = .ok (.getfield 17, 3) := @dq_o180 cX3_takeStep 1 0 17 (qX3_takeStep_0 1 180 rfl) (qX3_takeStep_0 2 0 rfl) (qX3_takeStep_0 3 17 rfl)
theorem dX3_takeStep_4 : decode cX3_takeStep 4 = .ok (.iload_n 2, 1) := @dq_o28 cX3_takeStep 4 (qX3_takeStep_0 4 28 rfl)
theorem dX3_takeStep_5 : decode cX3_takeStep 5 = .ok (.aaload, 1) := @dq_o50 cX3_takeStep 5 (qX3_takeStep_0 5 50 rfl)
theorem dX3_takeStep_6 : decode cX3_takeStep 6 = .ok (.iload_n 2, 1) := @dq_o28 cX3_takeStep 6 (qX3_takeStep_0 6 28 rfl)
theorem dX3_takeStep_7 : decode cX3_takeStep 7 = .ok (.laload, 1) := @dq_o47 cX3_takeStep 7 (qX3_takeStep_0 7 47 rfl)
theorem dX3_takeStep_8 : decode cX3_takeStep 8 = .ok (.lconst 0, 1) := @dq_o9 cX3_takeStep 8 (qX3_takeStep_0 8 9 rfl)
theorem dX3_takeStep_9 : decode cX3_takeStep 9 = .ok (.lcmp, 1) := @dq_o148 cX3_takeStep 9 (qX3_takeStep_0 9 148 rfl)
theorem dX3_takeStep_10 : decode cX3_takeStep 10 = .ok (.ifCond .eq 28, 3) := @dq_o153 cX3_takeStep 10 0 28 (qX3_takeStep_0 10 153 rfl) (qX3_takeStep_0 11 0 rfl) (qX3_takeStep_0 12 28 rfl)
theorem dX3_takeStep_13 : decode cX3_takeStep 13 = .ok (.aload_n 0, 1) := @dq_o42 cX3_takeStep 13 (qX3_takeStep_0 13 42 rfl)
theorem dX3_takeStep_14 : decode cX3_takeStep 14 = .ok (.aload_n 1, 1) := @dq_o43 cX3_takeStep 14 (qX3_takeStep_0 14 43 rfl)
theorem dX3_takeStep_15 : decode cX3_takeStep 15 = .ok (.aload_n 0, 1) := @dq_o42 cX3_takeStep 15 (qX3_takeStep_0 15 42 rfl)
theorem dX3_takeStep_16 : decode cX3_takeStep 16 = .ok (.getfield 17, 3) := @dq_o180 cX3_takeStep 16 0 17 (qX3_takeStep_1 0 180 rfl) (qX3_takeStep_1 1 0 rfl) (qX3_takeStep_1 2 17 rfl)
theorem dX3_takeStep_19 : decode cX3_takeStep 19 = .ok (.iload_n 2, 1) := @dq_o28 cX3_takeStep 19 (qX3_takeStep_1 3 28 rfl)
theorem dX3_takeStep_20 : decode cX3_takeStep 20 = .ok (.aaload, 1) := @dq_o50 cX3_takeStep 20 (qX3_takeStep_1 4 50 rfl)
theorem dX3_takeStep_21 : decode cX3_takeStep 21 = .ok (.aload_n 1, 1) := @dq_o43 cX3_takeStep 21 (qX3_takeStep_1 5 43 rfl)
theorem dX3_takeStep_22 : decode cX3_takeStep 22 = .ok (.iload_n 2, 1) := @dq_o28 cX3_takeStep 22 (qX3_takeStep_1 6 28 rfl)
theorem dX3_takeStep_23 : decode cX3_takeStep 23 = .ok (.laload, 1) := @dq_o47 cX3_takeStep 23 (qX3_takeStep_1 7 47 rfl)
theorem dX3_takeStep_24 : decode cX3_takeStep 24 = .ok (.aload_n 0, 1) := @dq_o42 cX3_takeStep 24 (qX3_takeStep_1 8 42 rfl)
theorem dX3_takeStep_25 : decode cX3_takeStep 25 = .ok (.getfield 17, 3) := @dq_o180 cX3_takeStep 25 0 17 (qX3_takeStep_1 9 180 rfl) (qX3_takeStep_1 10 0 rfl) (qX3_takeStep_1 11 17 rfl)
theorem dX3_takeStep_28 : decode cX3_takeStep 28 = .ok (.iload_n 2, 1) := @dq_o28 cX3_takeStep 28 (qX3_takeStep_1 12 28 rfl)
theorem dX3_takeStep_29 : decode cX3_takeStep 29 = .ok (.aaload, 1) := @dq_o50 cX3_takeStep 29 (qX3_takeStep_1 13 50 rfl)
theorem dX3_takeStep_30 : decode cX3_takeStep 30 = .ok (.iload_n 2, 1) := @dq_o28 cX3_takeStep 30 (qX3_takeStep_1 14 28 rfl)
theorem dX3_takeStep_31 : decode cX3_takeStep 31 = .ok (.laload, 1) := @dq_o47 cX3_takeStep 31 (qX3_takeStep_1 15 47 rfl)
theorem dX3_takeStep_32 : decode cX3_takeStep 32 = .ok (.invokestatic 60, 3) := @dq_o184 cX3_takeStep 32 0 60 (qX3_takeStep_2 0 184 rfl) (qX3_takeStep_2 1 0 rfl) (qX3_takeStep_2 2 60 rfl)
theorem dX3_takeStep_35 : decode cX3_takeStep 35 = .ok (.invokevirtual 64, 3) := @dq_o182 cX3_takeStep 35 0 64 (qX3_takeStep_2 3 182 rfl) (qX3_takeStep_2 4 0 rfl) (qX3_takeStep_2 5 64 rfl)
theorem dX3_takeStep_38 : decode cX3_takeStep 38 = .ok (.return_, 1) := @dq_o177 cX3_takeStep 38 (qX3_takeStep_2 6 177 rfl)
abbrev qaX3_meet_0 : List Nat := [3, 61, 28, 17, 3, 232, 162, 0, 61, 42, 180, 0, 20, 27, 47, 9]
abbrev qaX3_meet_1 : List Nat := [148, 153, 0, 50, 42, 42, 180, 0, 17, 27, 50, 42, 180, 0, 20, 42]
abbrev qaX3_meet_2 : List Nat := [180, 0, 17, 27, 50, 27, 47, 42, 180, 0, 20, 27, 47, 184, 0, 60]
abbrev qaX3_meet_3 : List Nat := [182, 0, 64, 42, 42, 180, 0, 17, 27, 50, 182, 0, 68, 132, 2, 1]
abbrev qaX3_meet_4 : List Nat := [167, 255, 194, 177]
def qtX3_meet_5 : List Nat := []
def qtX3_meet_4 : List Nat := qaX3_meet_4 ++ qtX3_meet_5
def qtX3_meet_3 : List Nat := qaX3_meet_3 ++ qtX3_meet_4
def qtX3_meet_2 : List Nat := qaX3_meet_2 ++ qtX3_meet_3
def qtX3_meet_1 : List Nat := qaX3_meet_1 ++ qtX3_meet_2
def qtX3_meet_0 : List Nat := qaX3_meet_0 ++ qtX3_meet_1
theorem qeX3_meet : cX3_meet.data.toList.map UInt8.toNat = qtX3_meet_0 := by decide +kernel
theorem qsX3_meet_0 : ∀ i, dqNth qtX3_meet_0 (0 + i) = dqNth qtX3_meet_0 i := fun i => by rw [Nat.zero_add]
theorem qsX3_meet_1 : ∀ i, dqNth qtX3_meet_0 (16 + i) = dqNth qtX3_meet_1 i := dq_step qsX3_meet_0 rfl rfl
theorem qsX3_meet_2 : ∀ i, dqNth qtX3_meet_0 (32 + i) = dqNth qtX3_meet_2 i := dq_step qsX3_meet_1 rfl rfl
theorem qsX3_meet_3 : ∀ i, dqNth qtX3_meet_0 (48 + i) = dqNth qtX3_meet_3 i := dq_step qsX3_meet_2 rfl rfl
theorem qsX3_meet_4 : ∀ i, dqNth qtX3_meet_0 (64 + i) = dqNth qtX3_meet_4 i := dq_step qsX3_meet_3 rfl rfl
theorem qX3_meet_0 (i b : Nat) (h : dqNth qaX3_meet_0 i = some b) : DqBy cX3_meet (0 + i) b := dqBy_of qeX3_meet ((qsX3_meet_0 i).trans (dq_in h))
theorem qX3_meet_1 (i b : Nat) (h : dqNth qaX3_meet_1 i = some b) : DqBy cX3_meet (16 + i) b := dqBy_of qeX3_meet ((qsX3_meet_1 i).trans (dq_in h))
theorem qX3_meet_2 (i b : Nat) (h : dqNth qaX3_meet_2 i = some b) : DqBy cX3_meet (32 + i) b := dqBy_of qeX3_meet ((qsX3_meet_2 i).trans (dq_in h))
theorem qX3_meet_3 (i b : Nat) (h : dqNth qaX3_meet_3 i = some b) : DqBy cX3_meet (48 + i) b := dqBy_of qeX3_meet ((qsX3_meet_3 i).trans (dq_in h))
theorem qX3_meet_4 (i b : Nat) (h : dqNth qaX3_meet_4 i = some b) : DqBy cX3_meet (64 + i) b := dqBy_of qeX3_meet ((qsX3_meet_4 i).trans (dq_in h))
theorem dX3_meet_0 : decode cX3_meet 0 = .ok (.iconst 0, 1) := @dq_o3 cX3_meet 0 (qX3_meet_0 0 3 rfl)
theorem dX3_meet_1 : decode cX3_meet 1 = .ok (.istore_n 2, 1) := @dq_o61 cX3_meet 1 (qX3_meet_0 1 61 rfl)
theorem dX3_meet_2 : decode cX3_meet 2 = .ok (.iload_n 2, 1) := @dq_o28 cX3_meet 2 (qX3_meet_0 2 28 rfl)
theorem dX3_meet_3 : decode cX3_meet 3 = .ok (.sipush 1000, 3) := @dq_o17 cX3_meet 3 3 232 (qX3_meet_0 3 17 rfl) (qX3_meet_0 4 3 rfl) (qX3_meet_0 5 232 rfl)
theorem dX3_meet_6 : decode cX3_meet 6 = .ok (.if_icmp .ge 61, 3) := @dq_o162 cX3_meet 6 0 61 (qX3_meet_0 6 162 rfl) (qX3_meet_0 7 0 rfl) (qX3_meet_0 8 61 rfl)
theorem dX3_meet_9 : decode cX3_meet 9 = .ok (.aload_n 0, 1) := @dq_o42 cX3_meet 9 (qX3_meet_0 9 42 rfl)
theorem dX3_meet_10 : decode cX3_meet 10 = .ok (.getfield 20, 3) := @dq_o180 cX3_meet 10 0 20 (qX3_meet_0 10 180 rfl) (qX3_meet_0 11 0 rfl) (qX3_meet_0 12 20 rfl)
theorem dX3_meet_13 : decode cX3_meet 13 = .ok (.iload_n 1, 1) := @dq_o27 cX3_meet 13 (qX3_meet_0 13 27 rfl)
theorem dX3_meet_14 : decode cX3_meet 14 = .ok (.laload, 1) := @dq_o47 cX3_meet 14 (qX3_meet_0 14 47 rfl)
theorem dX3_meet_15 : decode cX3_meet 15 = .ok (.lconst 0, 1) := @dq_o9 cX3_meet 15 (qX3_meet_0 15 9 rfl)
theorem dX3_meet_16 : decode cX3_meet 16 = .ok (.lcmp, 1) := @dq_o148 cX3_meet 16 (qX3_meet_1 0 148 rfl)
theorem dX3_meet_17 : decode cX3_meet 17 = .ok (.ifCond .eq 50, 3) := @dq_o153 cX3_meet 17 0 50 (qX3_meet_1 1 153 rfl) (qX3_meet_1 2 0 rfl) (qX3_meet_1 3 50 rfl)
theorem dX3_meet_20 : decode cX3_meet 20 = .ok (.aload_n 0, 1) := @dq_o42 cX3_meet 20 (qX3_meet_1 4 42 rfl)
theorem dX3_meet_21 : decode cX3_meet 21 = .ok (.aload_n 0, 1) := @dq_o42 cX3_meet 21 (qX3_meet_1 5 42 rfl)
theorem dX3_meet_22 : decode cX3_meet 22 = .ok (.getfield 17, 3) := @dq_o180 cX3_meet 22 0 17 (qX3_meet_1 6 180 rfl) (qX3_meet_1 7 0 rfl) (qX3_meet_1 8 17 rfl)
theorem dX3_meet_25 : decode cX3_meet 25 = .ok (.iload_n 1, 1) := @dq_o27 cX3_meet 25 (qX3_meet_1 9 27 rfl)
theorem dX3_meet_26 : decode cX3_meet 26 = .ok (.aaload, 1) := @dq_o50 cX3_meet 26 (qX3_meet_1 10 50 rfl)
theorem dX3_meet_27 : decode cX3_meet 27 = .ok (.aload_n 0, 1) := @dq_o42 cX3_meet 27 (qX3_meet_1 11 42 rfl)
theorem dX3_meet_28 : decode cX3_meet 28 = .ok (.getfield 20, 3) := @dq_o180 cX3_meet 28 0 20 (qX3_meet_1 12 180 rfl) (qX3_meet_1 13 0 rfl) (qX3_meet_1 14 20 rfl)
theorem dX3_meet_31 : decode cX3_meet 31 = .ok (.aload_n 0, 1) := @dq_o42 cX3_meet 31 (qX3_meet_1 15 42 rfl)
theorem dX3_meet_32 : decode cX3_meet 32 = .ok (.getfield 17, 3) := @dq_o180 cX3_meet 32 0 17 (qX3_meet_2 0 180 rfl) (qX3_meet_2 1 0 rfl) (qX3_meet_2 2 17 rfl)
theorem dX3_meet_35 : decode cX3_meet 35 = .ok (.iload_n 1, 1) := @dq_o27 cX3_meet 35 (qX3_meet_2 3 27 rfl)
theorem dX3_meet_36 : decode cX3_meet 36 = .ok (.aaload, 1) := @dq_o50 cX3_meet 36 (qX3_meet_2 4 50 rfl)
theorem dX3_meet_37 : decode cX3_meet 37 = .ok (.iload_n 1, 1) := @dq_o27 cX3_meet 37 (qX3_meet_2 5 27 rfl)
theorem dX3_meet_38 : decode cX3_meet 38 = .ok (.laload, 1) := @dq_o47 cX3_meet 38 (qX3_meet_2 6 47 rfl)
theorem dX3_meet_39 : decode cX3_meet 39 = .ok (.aload_n 0, 1) := @dq_o42 cX3_meet 39 (qX3_meet_2 7 42 rfl)
theorem dX3_meet_40 : decode cX3_meet 40 = .ok (.getfield 20, 3) := @dq_o180 cX3_meet 40 0 20 (qX3_meet_2 8 180 rfl) (qX3_meet_2 9 0 rfl) (qX3_meet_2 10 20 rfl)
theorem dX3_meet_43 : decode cX3_meet 43 = .ok (.iload_n 1, 1) := @dq_o27 cX3_meet 43 (qX3_meet_2 11 27 rfl)
theorem dX3_meet_44 : decode cX3_meet 44 = .ok (.laload, 1) := @dq_o47 cX3_meet 44 (qX3_meet_2 12 47 rfl)
theorem dX3_meet_45 : decode cX3_meet 45 = .ok (.invokestatic 60, 3) := @dq_o184 cX3_meet 45 0 60 (qX3_meet_2 13 184 rfl) (qX3_meet_2 14 0 rfl) (qX3_meet_2 15 60 rfl)
theorem dX3_meet_48 : decode cX3_meet 48 = .ok (.invokevirtual 64, 3) := @dq_o182 cX3_meet 48 0 64 (qX3_meet_3 0 182 rfl) (qX3_meet_3 1 0 rfl) (qX3_meet_3 2 64 rfl)
theorem dX3_meet_51 : decode cX3_meet 51 = .ok (.aload_n 0, 1) := @dq_o42 cX3_meet 51 (qX3_meet_3 3 42 rfl)
theorem dX3_meet_52 : decode cX3_meet 52 = .ok (.aload_n 0, 1) := @dq_o42 cX3_meet 52 (qX3_meet_3 4 42 rfl)
theorem dX3_meet_53 : decode cX3_meet 53 = .ok (.getfield 17, 3) := @dq_o180 cX3_meet 53 0 17 (qX3_meet_3 5 180 rfl) (qX3_meet_3 6 0 rfl) (qX3_meet_3 7 17 rfl)
theorem dX3_meet_56 : decode cX3_meet 56 = .ok (.iload_n 1, 1) := @dq_o27 cX3_meet 56 (qX3_meet_3 8 27 rfl)
theorem dX3_meet_57 : decode cX3_meet 57 = .ok (.aaload, 1) := @dq_o50 cX3_meet 57 (qX3_meet_3 9 50 rfl)
theorem dX3_meet_58 : decode cX3_meet 58 = .ok (.invokevirtual 68, 3) := @dq_o182 cX3_meet 58 0 68 (qX3_meet_3 10 182 rfl) (qX3_meet_3 11 0 rfl) (qX3_meet_3 12 68 rfl)
theorem dX3_meet_61 : decode cX3_meet 61 = .ok (.iinc 2 1, 3) := @dq_o132 cX3_meet 61 2 1 (qX3_meet_3 13 132 rfl) (qX3_meet_3 14 2 rfl) (qX3_meet_3 15 1 rfl)
theorem dX3_meet_64 : decode cX3_meet 64 = .ok (.goto (-62), 3) := @dq_o167 cX3_meet 64 255 194 (qX3_meet_4 0 167 rfl) (qX3_meet_4 1 255 rfl) (qX3_meet_4 2 194 rfl)
theorem dX3_meet_67 : decode cX3_meet 67 = .ok (.return_, 1) := @dq_o177 cX3_meet 67 (qX3_meet_4 3 177 rfl)
abbrev qaX3_swapWithSpare_0 : List Nat := [3, 61, 28, 42, 180, 0, 9, 162, 0, 29, 43, 28, 47, 66, 43, 28]
abbrev qaX3_swapWithSpare_1 : List Nat := [42, 180, 0, 20, 28, 47, 80, 42, 180, 0, 20, 28, 33, 80, 132, 2]
abbrev qaX3_swapWithSpare_2 : List Nat := [1, 167, 255, 225, 177]
def qtX3_swapWithSpare_3 : List Nat := []
def qtX3_swapWithSpare_2 : List Nat := qaX3_swapWithSpare_2 ++ qtX3_swapWithSpare_3
def qtX3_swapWithSpare_1 : List Nat := qaX3_swapWithSpare_1 ++ qtX3_swapWithSpare_2
def qtX3_swapWithSpare_0 : List Nat := qaX3_swapWithSpare_0 ++ qtX3_swapWithSpare_1
theorem qeX3_swapWithSpare : cX3_swapWithSpare.data.toList.map UInt8.toNat = qtX3_swapWithSpare_0 := by decide +kernel
theorem qsX3_swapWithSpare_0 : ∀ i, dqNth qtX3_swapWithSpare_0 (0 + i) = dqNth qtX3_swapWithSpare_0 i := fun i => by rw [Nat.zero_add]
theorem qsX3_swapWithSpare_1 : ∀ i, dqNth qtX3_swapWithSpare_0 (16 + i) = dqNth qtX3_swapWithSpare_1 i := dq_step qsX3_swapWithSpare_0 rfl rfl
theorem qsX3_swapWithSpare_2 : ∀ i, dqNth qtX3_swapWithSpare_0 (32 + i) = dqNth qtX3_swapWithSpare_2 i := dq_step qsX3_swapWithSpare_1 rfl rfl
theorem qX3_swapWithSpare_0 (i b : Nat) (h : dqNth qaX3_swapWithSpare_0 i = some b) : DqBy cX3_swapWithSpare (0 + i) b := dqBy_of qeX3_swapWithSpare ((qsX3_swapWithSpare_0 i).trans (dq_in h))
theorem qX3_swapWithSpare_1 (i b : Nat) (h : dqNth qaX3_swapWithSpare_1 i = some b) : DqBy cX3_swapWithSpare (16 + i) b := dqBy_of qeX3_swapWithSpare ((qsX3_swapWithSpare_1 i).trans (dq_in h))
theorem qX3_swapWithSpare_2 (i b : Nat) (h : dqNth qaX3_swapWithSpare_2 i = some b) : DqBy cX3_swapWithSpare (32 + i) b := dqBy_of qeX3_swapWithSpare ((qsX3_swapWithSpare_2 i).trans (dq_in h))
theorem dX3_swapWithSpare_0 : decode cX3_swapWithSpare 0 = .ok (.iconst 0, 1) := @dq_o3 cX3_swapWithSpare 0 (qX3_swapWithSpare_0 0 3 rfl)
theorem dX3_swapWithSpare_1 : decode cX3_swapWithSpare 1 = .ok (.istore_n 2, 1) := @dq_o61 cX3_swapWithSpare 1 (qX3_swapWithSpare_0 1 61 rfl)
theorem dX3_swapWithSpare_2 : decode cX3_swapWithSpare 2 = .ok (.iload_n 2, 1) := @dq_o28 cX3_swapWithSpare 2 (qX3_swapWithSpare_0 2 28 rfl)
theorem dX3_swapWithSpare_3 : decode cX3_swapWithSpare 3 = .ok (.aload_n 0, 1) := @dq_o42 cX3_swapWithSpare 3 (qX3_swapWithSpare_0 3 42 rfl)
theorem dX3_swapWithSpare_4 : decode cX3_swapWithSpare 4 = .ok (.getfield 9, 3) := @dq_o180 cX3_swapWithSpare 4 0 9 (qX3_swapWithSpare_0 4 180 rfl) (qX3_swapWithSpare_0 5 0 rfl) (qX3_swapWithSpare_0 6 9 rfl)
theorem dX3_swapWithSpare_7 : decode cX3_swapWithSpare 7 = .ok (.if_icmp .ge 29, 3) := @dq_o162 cX3_swapWithSpare 7 0 29 (qX3_swapWithSpare_0 7 162 rfl) (qX3_swapWithSpare_0 8 0 rfl) (qX3_swapWithSpare_0 9 29 rfl)
theorem dX3_swapWithSpare_10 : decode cX3_swapWithSpare 10 = .ok (.aload_n 1, 1) := @dq_o43 cX3_swapWithSpare 10 (qX3_swapWithSpare_0 10 43 rfl)
theorem dX3_swapWithSpare_11 : decode cX3_swapWithSpare 11 = .ok (.iload_n 2, 1) := @dq_o28 cX3_swapWithSpare 11 (qX3_swapWithSpare_0 11 28 rfl)
theorem dX3_swapWithSpare_12 : decode cX3_swapWithSpare 12 = .ok (.laload, 1) := @dq_o47 cX3_swapWithSpare 12 (qX3_swapWithSpare_0 12 47 rfl)
theorem dX3_swapWithSpare_13 : decode cX3_swapWithSpare 13 = .ok (.lstore_n 3, 1) := @dq_o66 cX3_swapWithSpare 13 (qX3_swapWithSpare_0 13 66 rfl)
theorem dX3_swapWithSpare_14 : decode cX3_swapWithSpare 14 = .ok (.aload_n 1, 1) := @dq_o43 cX3_swapWithSpare 14 (qX3_swapWithSpare_0 14 43 rfl)
theorem dX3_swapWithSpare_15 : decode cX3_swapWithSpare 15 = .ok (.iload_n 2, 1) := @dq_o28 cX3_swapWithSpare 15 (qX3_swapWithSpare_0 15 28 rfl)
theorem dX3_swapWithSpare_16 : decode cX3_swapWithSpare 16 = .ok (.aload_n 0, 1) := @dq_o42 cX3_swapWithSpare 16 (qX3_swapWithSpare_1 0 42 rfl)
theorem dX3_swapWithSpare_17 : decode cX3_swapWithSpare 17 = .ok (.getfield 20, 3) := @dq_o180 cX3_swapWithSpare 17 0 20 (qX3_swapWithSpare_1 1 180 rfl) (qX3_swapWithSpare_1 2 0 rfl) (qX3_swapWithSpare_1 3 20 rfl)
theorem dX3_swapWithSpare_20 : decode cX3_swapWithSpare 20 = .ok (.iload_n 2, 1) := @dq_o28 cX3_swapWithSpare 20 (qX3_swapWithSpare_1 4 28 rfl)
theorem dX3_swapWithSpare_21 : decode cX3_swapWithSpare 21 = .ok (.laload, 1) := @dq_o47 cX3_swapWithSpare 21 (qX3_swapWithSpare_1 5 47 rfl)
theorem dX3_swapWithSpare_22 : decode cX3_swapWithSpare 22 = .ok (.lastore, 1) := @dq_o80 cX3_swapWithSpare 22 (qX3_swapWithSpare_1 6 80 rfl)
theorem dX3_swapWithSpare_23 : decode cX3_swapWithSpare 23 = .ok (.aload_n 0, 1) := @dq_o42 cX3_swapWithSpare 23 (qX3_swapWithSpare_1 7 42 rfl)
theorem dX3_swapWithSpare_24 : decode cX3_swapWithSpare 24 = .ok (.getfield 20, 3) := @dq_o180 cX3_swapWithSpare 24 0 20 (qX3_swapWithSpare_1 8 180 rfl) (qX3_swapWithSpare_1 9 0 rfl) (qX3_swapWithSpare_1 10 20 rfl)
theorem dX3_swapWithSpare_27 : decode cX3_swapWithSpare 27 = .ok (.iload_n 2, 1) := @dq_o28 cX3_swapWithSpare 27 (qX3_swapWithSpare_1 11 28 rfl)
theorem dX3_swapWithSpare_28 : decode cX3_swapWithSpare 28 = .ok (.lload_n 3, 1) := @dq_o33 cX3_swapWithSpare 28 (qX3_swapWithSpare_1 12 33 rfl)
theorem dX3_swapWithSpare_29 : decode cX3_swapWithSpare 29 = .ok (.lastore, 1) := @dq_o80 cX3_swapWithSpare 29 (qX3_swapWithSpare_1 13 80 rfl)
theorem dX3_swapWithSpare_30 : decode cX3_swapWithSpare 30 = .ok (.iinc 2 1, 3) := @dq_o132 cX3_swapWithSpare 30 2 1 (qX3_swapWithSpare_1 14 132 rfl) (qX3_swapWithSpare_1 15 2 rfl) (qX3_swapWithSpare_2 0 1 rfl)
theorem dX3_swapWithSpare_33 : decode cX3_swapWithSpare 33 = .ok (.goto (-31), 3) := @dq_o167 cX3_swapWithSpare 33 255 225 (qX3_swapWithSpare_2 1 167 rfl) (qX3_swapWithSpare_2 2 255 rfl) (qX3_swapWithSpare_2 3 225 rfl)
theorem dX3_swapWithSpare_36 : decode cX3_swapWithSpare 36 = .ok (.return_, 1) := @dq_o177 cX3_swapWithSpare 36 (qX3_swapWithSpare_2 4 177 rfl)
abbrev qaX3_subtract_0 : List Nat := [3, 54, 5, 21, 5, 42, 180, 0, 9, 162, 0, 22, 43, 21, 5, 92]
abbrev qaX3_subtract_1 : List Nat := [47, 33, 44, 21, 5, 47, 105, 101, 80, 132, 5, 1, 167, 255, 231, 177]
def qtX3_subtract_2 : List Nat := []
def qtX3_subtract_1 : List Nat := qaX3_subtract_1 ++ qtX3_subtract_2
def qtX3_subtract_0 : List Nat := qaX3_subtract_0 ++ qtX3_subtract_1
theorem qeX3_subtract : cX3_subtract.data.toList.map UInt8.toNat = qtX3_subtract_0 := by decide +kernel
theorem qsX3_subtract_0 : ∀ i, dqNth qtX3_subtract_0 (0 + i) = dqNth qtX3_subtract_0 i := fun i => by rw [Nat.zero_add]
theorem qsX3_subtract_1 : ∀ i, dqNth qtX3_subtract_0 (16 + i) = dqNth qtX3_subtract_1 i := dq_step qsX3_subtract_0 rfl rfl
theorem qX3_subtract_0 (i b : Nat) (h : dqNth qaX3_subtract_0 i = some b) : DqBy cX3_subtract (0 + i) b := dqBy_of qeX3_subtract ((qsX3_subtract_0 i).trans (dq_in h))
theorem qX3_subtract_1 (i b : Nat) (h : dqNth qaX3_subtract_1 i = some b) : DqBy cX3_subtract (16 + i) b := dqBy_of qeX3_subtract ((qsX3_subtract_1 i).trans (dq_in h))
theorem dX3_subtract_0 : decode cX3_subtract 0 = .ok (.iconst 0, 1) := @dq_o3 cX3_subtract 0 (qX3_subtract_0 0 3 rfl)
theorem dX3_subtract_1 : decode cX3_subtract 1 = .ok (.istore 5, 2) := @dq_o54 cX3_subtract 1 5 (qX3_subtract_0 1 54 rfl) (qX3_subtract_0 2 5 rfl)
theorem dX3_subtract_3 : decode cX3_subtract 3 = .ok (.iload 5, 2) := @dq_o21 cX3_subtract 3 5 (qX3_subtract_0 3 21 rfl) (qX3_subtract_0 4 5 rfl)
theorem dX3_subtract_5 : decode cX3_subtract 5 = .ok (.aload_n 0, 1) := @dq_o42 cX3_subtract 5 (qX3_subtract_0 5 42 rfl)
theorem dX3_subtract_6 : decode cX3_subtract 6 = .ok (.getfield 9, 3) := @dq_o180 cX3_subtract 6 0 9 (qX3_subtract_0 6 180 rfl) (qX3_subtract_0 7 0 rfl) (qX3_subtract_0 8 9 rfl)
theorem dX3_subtract_9 : decode cX3_subtract 9 = .ok (.if_icmp .ge 22, 3) := @dq_o162 cX3_subtract 9 0 22 (qX3_subtract_0 9 162 rfl) (qX3_subtract_0 10 0 rfl) (qX3_subtract_0 11 22 rfl)
theorem dX3_subtract_12 : decode cX3_subtract 12 = .ok (.aload_n 1, 1) := @dq_o43 cX3_subtract 12 (qX3_subtract_0 12 43 rfl)
theorem dX3_subtract_13 : decode cX3_subtract 13 = .ok (.iload 5, 2) := @dq_o21 cX3_subtract 13 5 (qX3_subtract_0 13 21 rfl) (qX3_subtract_0 14 5 rfl)
theorem dX3_subtract_15 : decode cX3_subtract 15 = .ok (.dup2, 1) := @dq_o92 cX3_subtract 15 (qX3_subtract_0 15 92 rfl)
theorem dX3_subtract_16 : decode cX3_subtract 16 = .ok (.laload, 1) := @dq_o47 cX3_subtract 16 (qX3_subtract_1 0 47 rfl)
theorem dX3_subtract_17 : decode cX3_subtract 17 = .ok (.lload_n 3, 1) := @dq_o33 cX3_subtract 17 (qX3_subtract_1 1 33 rfl)
theorem dX3_subtract_18 : decode cX3_subtract 18 = .ok (.aload_n 2, 1) := @dq_o44 cX3_subtract 18 (qX3_subtract_1 2 44 rfl)
theorem dX3_subtract_19 : decode cX3_subtract 19 = .ok (.iload 5, 2) := @dq_o21 cX3_subtract 19 5 (qX3_subtract_1 3 21 rfl) (qX3_subtract_1 4 5 rfl)
theorem dX3_subtract_21 : decode cX3_subtract 21 = .ok (.laload, 1) := @dq_o47 cX3_subtract 21 (qX3_subtract_1 5 47 rfl)
theorem dX3_subtract_22 : decode cX3_subtract 22 = .ok (.lmul, 1) := @dq_o105 cX3_subtract 22 (qX3_subtract_1 6 105 rfl)
theorem dX3_subtract_23 : decode cX3_subtract 23 = .ok (.lsub, 1) := @dq_o101 cX3_subtract 23 (qX3_subtract_1 7 101 rfl)
theorem dX3_subtract_24 : decode cX3_subtract 24 = .ok (.lastore, 1) := @dq_o80 cX3_subtract 24 (qX3_subtract_1 8 80 rfl)
theorem dX3_subtract_25 : decode cX3_subtract 25 = .ok (.iinc 5 1, 3) := @dq_o132 cX3_subtract 25 5 1 (qX3_subtract_1 9 132 rfl) (qX3_subtract_1 10 5 rfl) (qX3_subtract_1 11 1 rfl)
theorem dX3_subtract_28 : decode cX3_subtract 28 = .ok (.goto (-25), 3) := @dq_o167 cX3_subtract 28 255 231 (qX3_subtract_1 12 167 rfl) (qX3_subtract_1 13 255 rfl) (qX3_subtract_1 14 231 rfl)
theorem dX3_subtract_31 : decode cX3_subtract 31 = .ok (.return_, 1) := @dq_o177 cX3_subtract 31 (qX3_subtract_1 15 177 rfl)
abbrev qaX3_negate_0 : List Nat := [3, 61, 28, 42, 180, 0, 9, 162, 0, 16, 43, 28, 43, 28, 47, 117]
abbrev qaX3_negate_1 : List Nat := [80, 132, 2, 1, 167, 255, 238, 177]
def qtX3_negate_2 : List Nat := []
def qtX3_negate_1 : List Nat := qaX3_negate_1 ++ qtX3_negate_2
def qtX3_negate_0 : List Nat := qaX3_negate_0 ++ qtX3_negate_1
theorem qeX3_negate : cX3_negate.data.toList.map UInt8.toNat = qtX3_negate_0 := by decide +kernel
theorem qsX3_negate_0 : ∀ i, dqNth qtX3_negate_0 (0 + i) = dqNth qtX3_negate_0 i := fun i => by rw [Nat.zero_add]
theorem qsX3_negate_1 : ∀ i, dqNth qtX3_negate_0 (16 + i) = dqNth qtX3_negate_1 i := dq_step qsX3_negate_0 rfl rfl
theorem qX3_negate_0 (i b : Nat) (h : dqNth qaX3_negate_0 i = some b) : DqBy cX3_negate (0 + i) b := dqBy_of qeX3_negate ((qsX3_negate_0 i).trans (dq_in h))
theorem qX3_negate_1 (i b : Nat) (h : dqNth qaX3_negate_1 i = some b) : DqBy cX3_negate (16 + i) b := dqBy_of qeX3_negate ((qsX3_negate_1 i).trans (dq_in h))
theorem dX3_negate_0 : decode cX3_negate 0 = .ok (.iconst 0, 1) := @dq_o3 cX3_negate 0 (qX3_negate_0 0 3 rfl)
theorem dX3_negate_1 : decode cX3_negate 1 = .ok (.istore_n 2, 1) := @dq_o61 cX3_negate 1 (qX3_negate_0 1 61 rfl)
theorem dX3_negate_2 : decode cX3_negate 2 = .ok (.iload_n 2, 1) := @dq_o28 cX3_negate 2 (qX3_negate_0 2 28 rfl)
theorem dX3_negate_3 : decode cX3_negate 3 = .ok (.aload_n 0, 1) := @dq_o42 cX3_negate 3 (qX3_negate_0 3 42 rfl)
theorem dX3_negate_4 : decode cX3_negate 4 = .ok (.getfield 9, 3) := @dq_o180 cX3_negate 4 0 9 (qX3_negate_0 4 180 rfl) (qX3_negate_0 5 0 rfl) (qX3_negate_0 6 9 rfl)
theorem dX3_negate_7 : decode cX3_negate 7 = .ok (.if_icmp .ge 16, 3) := @dq_o162 cX3_negate 7 0 16 (qX3_negate_0 7 162 rfl) (qX3_negate_0 8 0 rfl) (qX3_negate_0 9 16 rfl)
theorem dX3_negate_10 : decode cX3_negate 10 = .ok (.aload_n 1, 1) := @dq_o43 cX3_negate 10 (qX3_negate_0 10 43 rfl)
theorem dX3_negate_11 : decode cX3_negate 11 = .ok (.iload_n 2, 1) := @dq_o28 cX3_negate 11 (qX3_negate_0 11 28 rfl)
theorem dX3_negate_12 : decode cX3_negate 12 = .ok (.aload_n 1, 1) := @dq_o43 cX3_negate 12 (qX3_negate_0 12 43 rfl)
theorem dX3_negate_13 : decode cX3_negate 13 = .ok (.iload_n 2, 1) := @dq_o28 cX3_negate 13 (qX3_negate_0 13 28 rfl)
theorem dX3_negate_14 : decode cX3_negate 14 = .ok (.laload, 1) := @dq_o47 cX3_negate 14 (qX3_negate_0 14 47 rfl)
theorem dX3_negate_15 : decode cX3_negate 15 = .ok (.lneg, 1) := @dq_o117 cX3_negate 15 (qX3_negate_0 15 117 rfl)
theorem dX3_negate_16 : decode cX3_negate 16 = .ok (.lastore, 1) := @dq_o80 cX3_negate 16 (qX3_negate_1 0 80 rfl)
theorem dX3_negate_17 : decode cX3_negate 17 = .ok (.iinc 2 1, 3) := @dq_o132 cX3_negate 17 2 1 (qX3_negate_1 1 132 rfl) (qX3_negate_1 2 2 rfl) (qX3_negate_1 3 1 rfl)
theorem dX3_negate_20 : decode cX3_negate 20 = .ok (.goto (-18), 3) := @dq_o167 cX3_negate 20 255 238 (qX3_negate_1 4 167 rfl) (qX3_negate_1 5 255 rfl) (qX3_negate_1 6 238 rfl)
theorem dX3_negate_23 : decode cX3_negate 23 = .ok (.return_, 1) := @dq_o177 cX3_negate 23 (qX3_negate_1 7 177 rfl)
abbrev qaX3_tidy_0 : List Nat := [42, 180, 0, 9, 4, 100, 60, 27, 155, 0, 38, 27, 4, 96, 61, 28]
abbrev qaX3_tidy_1 : List Nat := [42, 180, 0, 9, 162, 0, 20, 42, 42, 180, 0, 17, 27, 50, 28, 182]
abbrev qaX3_tidy_2 : List Nat := [0, 56, 132, 2, 1, 167, 255, 234, 132, 1, 255, 167, 255, 220, 177]
def qtX3_tidy_3 : List Nat := []
def qtX3_tidy_2 : List Nat := qaX3_tidy_2 ++ qtX3_tidy_3
def qtX3_tidy_1 : List Nat := qaX3_tidy_1 ++ qtX3_tidy_2
def qtX3_tidy_0 : List Nat := qaX3_tidy_0 ++ qtX3_tidy_1
theorem qeX3_tidy : cX3_tidy.data.toList.map UInt8.toNat = qtX3_tidy_0 := by decide +kernel
theorem qsX3_tidy_0 : ∀ i, dqNth qtX3_tidy_0 (0 + i) = dqNth qtX3_tidy_0 i := fun i => by rw [Nat.zero_add]
theorem qsX3_tidy_1 : ∀ i, dqNth qtX3_tidy_0 (16 + i) = dqNth qtX3_tidy_1 i := dq_step qsX3_tidy_0 rfl rfl
theorem qsX3_tidy_2 : ∀ i, dqNth qtX3_tidy_0 (32 + i) = dqNth qtX3_tidy_2 i := dq_step qsX3_tidy_1 rfl rfl
theorem qX3_tidy_0 (i b : Nat) (h : dqNth qaX3_tidy_0 i = some b) : DqBy cX3_tidy (0 + i) b := dqBy_of qeX3_tidy ((qsX3_tidy_0 i).trans (dq_in h))
theorem qX3_tidy_1 (i b : Nat) (h : dqNth qaX3_tidy_1 i = some b) : DqBy cX3_tidy (16 + i) b := dqBy_of qeX3_tidy ((qsX3_tidy_1 i).trans (dq_in h))
theorem qX3_tidy_2 (i b : Nat) (h : dqNth qaX3_tidy_2 i = some b) : DqBy cX3_tidy (32 + i) b := dqBy_of qeX3_tidy ((qsX3_tidy_2 i).trans (dq_in h))
theorem dX3_tidy_0 : decode cX3_tidy 0 = .ok (.aload_n 0, 1) := @dq_o42 cX3_tidy 0 (qX3_tidy_0 0 42 rfl)
theorem dX3_tidy_1 : decode cX3_tidy 1 = .ok (.getfield 9, 3) := @dq_o180 cX3_tidy 1 0 9 (qX3_tidy_0 1 180 rfl) (qX3_tidy_0 2 0 rfl) (qX3_tidy_0 3 9 rfl)
theorem dX3_tidy_4 : decode cX3_tidy 4 = .ok (.iconst 1, 1) := @dq_o4 cX3_tidy 4 (qX3_tidy_0 4 4 rfl)
theorem dX3_tidy_5 : decode cX3_tidy 5 = .ok (.isub, 1) := @dq_o100 cX3_tidy 5 (qX3_tidy_0 5 100 rfl)
theorem dX3_tidy_6 : decode cX3_tidy 6 = .ok (.istore_n 1, 1) := @dq_o60 cX3_tidy 6 (qX3_tidy_0 6 60 rfl)
theorem dX3_tidy_7 : decode cX3_tidy 7 = .ok (.iload_n 1, 1) := @dq_o27 cX3_tidy 7 (qX3_tidy_0 7 27 rfl)
theorem dX3_tidy_8 : decode cX3_tidy 8 = .ok (.ifCond .lt 38, 3) := @dq_o155 cX3_tidy 8 0 38 (qX3_tidy_0 8 155 rfl) (qX3_tidy_0 9 0 rfl) (qX3_tidy_0 10 38 rfl)
theorem dX3_tidy_11 : decode cX3_tidy 11 = .ok (.iload_n 1, 1) := @dq_o27 cX3_tidy 11 (qX3_tidy_0 11 27 rfl)
theorem dX3_tidy_12 : decode cX3_tidy 12 = .ok (.iconst 1, 1) := @dq_o4 cX3_tidy 12 (qX3_tidy_0 12 4 rfl)
theorem dX3_tidy_13 : decode cX3_tidy 13 = .ok (.iadd, 1) := @dq_o96 cX3_tidy 13 (qX3_tidy_0 13 96 rfl)
theorem dX3_tidy_14 : decode cX3_tidy 14 = .ok (.istore_n 2, 1) := @dq_o61 cX3_tidy 14 (qX3_tidy_0 14 61 rfl)
theorem dX3_tidy_15 : decode cX3_tidy 15 = .ok (.iload_n 2, 1) := @dq_o28 cX3_tidy 15 (qX3_tidy_0 15 28 rfl)
theorem dX3_tidy_16 : decode cX3_tidy 16 = .ok (.aload_n 0, 1) := @dq_o42 cX3_tidy 16 (qX3_tidy_1 0 42 rfl)
theorem dX3_tidy_17 : decode cX3_tidy 17 = .ok (.getfield 9, 3) := @dq_o180 cX3_tidy 17 0 9 (qX3_tidy_1 1 180 rfl) (qX3_tidy_1 2 0 rfl) (qX3_tidy_1 3 9 rfl)
theorem dX3_tidy_20 : decode cX3_tidy 20 = .ok (.if_icmp .ge 20, 3) := @dq_o162 cX3_tidy 20 0 20 (qX3_tidy_1 4 162 rfl) (qX3_tidy_1 5 0 rfl) (qX3_tidy_1 6 20 rfl)
theorem dX3_tidy_23 : decode cX3_tidy 23 = .ok (.aload_n 0, 1) := @dq_o42 cX3_tidy 23 (qX3_tidy_1 7 42 rfl)
theorem dX3_tidy_24 : decode cX3_tidy 24 = .ok (.aload_n 0, 1) := @dq_o42 cX3_tidy 24 (qX3_tidy_1 8 42 rfl)
theorem dX3_tidy_25 : decode cX3_tidy 25 = .ok (.getfield 17, 3) := @dq_o180 cX3_tidy 25 0 17 (qX3_tidy_1 9 180 rfl) (qX3_tidy_1 10 0 rfl) (qX3_tidy_1 11 17 rfl)
theorem dX3_tidy_28 : decode cX3_tidy 28 = .ok (.iload_n 1, 1) := @dq_o27 cX3_tidy 28 (qX3_tidy_1 12 27 rfl)
theorem dX3_tidy_29 : decode cX3_tidy 29 = .ok (.aaload, 1) := @dq_o50 cX3_tidy 29 (qX3_tidy_1 13 50 rfl)
theorem dX3_tidy_30 : decode cX3_tidy 30 = .ok (.iload_n 2, 1) := @dq_o28 cX3_tidy 30 (qX3_tidy_1 14 28 rfl)
theorem dX3_tidy_31 : decode cX3_tidy 31 = .ok (.invokevirtual 56, 3) := @dq_o182 cX3_tidy 31 0 56 (qX3_tidy_1 15 182 rfl) (qX3_tidy_2 0 0 rfl) (qX3_tidy_2 1 56 rfl)
theorem dX3_tidy_34 : decode cX3_tidy 34 = .ok (.iinc 2 1, 3) := @dq_o132 cX3_tidy 34 2 1 (qX3_tidy_2 2 132 rfl) (qX3_tidy_2 3 2 rfl) (qX3_tidy_2 4 1 rfl)
theorem dX3_tidy_37 : decode cX3_tidy 37 = .ok (.goto (-22), 3) := @dq_o167 cX3_tidy 37 255 234 (qX3_tidy_2 5 167 rfl) (qX3_tidy_2 6 255 rfl) (qX3_tidy_2 7 234 rfl)
theorem dX3_tidy_40 : decode cX3_tidy 40 = .ok (.iinc 1 (-1), 3) := @dq_o132 cX3_tidy 40 1 255 (qX3_tidy_2 8 132 rfl) (qX3_tidy_2 9 1 rfl) (qX3_tidy_2 10 255 rfl)
theorem dX3_tidy_43 : decode cX3_tidy 43 = .ok (.goto (-36), 3) := @dq_o167 cX3_tidy 43 255 220 (qX3_tidy_2 11 167 rfl) (qX3_tidy_2 12 255 rfl) (qX3_tidy_2 13 220 rfl)
theorem dX3_tidy_46 : decode cX3_tidy 46 = .ok (.return_, 1) := @dq_o177 cX3_tidy 46 (qX3_tidy_2 14 177 rfl)
abbrev qaX4_init_0 : List Nat := [42, 183, 0, 3, 42, 187, 0, 9, 89, 183, 0, 11, 181, 0, 12, 42]
abbrev qaX4_init_1 : List Nat := [16, 6, 189, 0, 18, 181, 0, 20, 42, 3, 181, 0, 24, 42, 3, 181]
abbrev qaX4_init_2 : List Nat := [0, 28, 42, 16, 12, 188, 10, 181, 0, 32, 42, 3, 181, 0, 36, 42]
abbrev qaX4_init_3 : List Nat := [16, 64, 188, 11, 181, 0, 39, 42, 16, 6, 188, 10, 181, 0, 43, 42]
abbrev qaX4_init_4 : List Nat := [43, 181, 0, 46, 3, 61, 28, 16, 6, 162, 0, 22, 42, 180, 0, 20]
abbrev qaX4_init_5 : List Nat := [28, 187, 0, 18, 89, 183, 0, 50, 83, 132, 2, 1, 167, 255, 234, 177]
def qtX4_init_6 : List Nat := []
def qtX4_init_5 : List Nat := qaX4_init_5 ++ qtX4_init_6
def qtX4_init_4 : List Nat := qaX4_init_4 ++ qtX4_init_5
def qtX4_init_3 : List Nat := qaX4_init_3 ++ qtX4_init_4
def qtX4_init_2 : List Nat := qaX4_init_2 ++ qtX4_init_3
def qtX4_init_1 : List Nat := qaX4_init_1 ++ qtX4_init_2
def qtX4_init_0 : List Nat := qaX4_init_0 ++ qtX4_init_1
theorem qeX4_init : cX4_init.data.toList.map UInt8.toNat = qtX4_init_0 := by decide +kernel
theorem qsX4_init_0 : ∀ i, dqNth qtX4_init_0 (0 + i) = dqNth qtX4_init_0 i := fun i => by rw [Nat.zero_add]
theorem qsX4_init_1 : ∀ i, dqNth qtX4_init_0 (16 + i) = dqNth qtX4_init_1 i := dq_step qsX4_init_0 rfl rfl
theorem qsX4_init_2 : ∀ i, dqNth qtX4_init_0 (32 + i) = dqNth qtX4_init_2 i := dq_step qsX4_init_1 rfl rfl
theorem qsX4_init_3 : ∀ i, dqNth qtX4_init_0 (48 + i) = dqNth qtX4_init_3 i := dq_step qsX4_init_2 rfl rfl
theorem qsX4_init_4 : ∀ i, dqNth qtX4_init_0 (64 + i) = dqNth qtX4_init_4 i := dq_step qsX4_init_3 rfl rfl
theorem qsX4_init_5 : ∀ i, dqNth qtX4_init_0 (80 + i) = dqNth qtX4_init_5 i := dq_step qsX4_init_4 rfl rfl
theorem qX4_init_0 (i b : Nat) (h : dqNth qaX4_init_0 i = some b) : DqBy cX4_init (0 + i) b := dqBy_of qeX4_init ((qsX4_init_0 i).trans (dq_in h))
theorem qX4_init_1 (i b : Nat) (h : dqNth qaX4_init_1 i = some b) : DqBy cX4_init (16 + i) b := dqBy_of qeX4_init ((qsX4_init_1 i).trans (dq_in h))
theorem qX4_init_2 (i b : Nat) (h : dqNth qaX4_init_2 i = some b) : DqBy cX4_init (32 + i) b := dqBy_of qeX4_init ((qsX4_init_2 i).trans (dq_in h))
theorem qX4_init_3 (i b : Nat) (h : dqNth qaX4_init_3 i = some b) : DqBy cX4_init (48 + i) b := dqBy_of qeX4_init ((qsX4_init_3 i).trans (dq_in h))
theorem qX4_init_4 (i b : Nat) (h : dqNth qaX4_init_4 i = some b) : DqBy cX4_init (64 + i) b := dqBy_of qeX4_init ((qsX4_init_4 i).trans (dq_in h))
theorem qX4_init_5 (i b : Nat) (h : dqNth qaX4_init_5 i = some b) : DqBy cX4_init (80 + i) b := dqBy_of qeX4_init ((qsX4_init_5 i).trans (dq_in h))
theorem dX4_init_0 : decode cX4_init 0 = .ok (.aload_n 0, 1) := @dq_o42 cX4_init 0 (qX4_init_0 0 42 rfl)
theorem dX4_init_1 : decode cX4_init 1 = .ok (.invokespecial 3, 3) := @dq_o183 cX4_init 1 0 3 (qX4_init_0 1 183 rfl) (qX4_init_0 2 0 rfl) (qX4_init_0 3 3 rfl)
theorem dX4_init_4 : decode cX4_init 4 = .ok (.aload_n 0, 1) := @dq_o42 cX4_init 4 (qX4_init_0 4 42 rfl)
theorem dX4_init_5 : decode cX4_init 5 = .ok (.new 9, 3) := @dq_o187 cX4_init 5 0 9 (qX4_init_0 5 187 rfl) (qX4_init_0 6 0 rfl) (qX4_init_0 7 9 rfl)
theorem dX4_init_8 : decode cX4_init 8 = .ok (.dup, 1) := @dq_o89 cX4_init 8 (qX4_init_0 8 89 rfl)
theorem dX4_init_9 : decode cX4_init 9 = .ok (.invokespecial 11, 3) := @dq_o183 cX4_init 9 0 11 (qX4_init_0 9 183 rfl) (qX4_init_0 10 0 rfl) (qX4_init_0 11 11 rfl)
theorem dX4_init_12 : decode cX4_init 12 = .ok (.putfield 12, 3) := @dq_o181 cX4_init 12 0 12 (qX4_init_0 12 181 rfl) (qX4_init_0 13 0 rfl) (qX4_init_0 14 12 rfl)
theorem dX4_init_15 : decode cX4_init 15 = .ok (.aload_n 0, 1) := @dq_o42 cX4_init 15 (qX4_init_0 15 42 rfl)
theorem dX4_init_16 : decode cX4_init 16 = .ok (.bipush 6, 2) := @dq_o16 cX4_init 16 6 (qX4_init_1 0 16 rfl) (qX4_init_1 1 6 rfl)
theorem dX4_init_18 : decode cX4_init 18 = .ok (.anewarray 18, 3) := @dq_o189 cX4_init 18 0 18 (qX4_init_1 2 189 rfl) (qX4_init_1 3 0 rfl) (qX4_init_1 4 18 rfl)
theorem dX4_init_21 : decode cX4_init 21 = .ok (.putfield 20, 3) := @dq_o181 cX4_init 21 0 20 (qX4_init_1 5 181 rfl) (qX4_init_1 6 0 rfl) (qX4_init_1 7 20 rfl)
theorem dX4_init_24 : decode cX4_init 24 = .ok (.aload_n 0, 1) := @dq_o42 cX4_init 24 (qX4_init_1 8 42 rfl)
theorem dX4_init_25 : decode cX4_init 25 = .ok (.iconst 0, 1) := @dq_o3 cX4_init 25 (qX4_init_1 9 3 rfl)
theorem dX4_init_26 : decode cX4_init 26 = .ok (.putfield 24, 3) := @dq_o181 cX4_init 26 0 24 (qX4_init_1 10 181 rfl) (qX4_init_1 11 0 rfl) (qX4_init_1 12 24 rfl)
theorem dX4_init_29 : decode cX4_init 29 = .ok (.aload_n 0, 1) := @dq_o42 cX4_init 29 (qX4_init_1 13 42 rfl)
theorem dX4_init_30 : decode cX4_init 30 = .ok (.iconst 0, 1) := @dq_o3 cX4_init 30 (qX4_init_1 14 3 rfl)
theorem dX4_init_31 : decode cX4_init 31 = .ok (.putfield 28, 3) := @dq_o181 cX4_init 31 0 28 (qX4_init_1 15 181 rfl) (qX4_init_2 0 0 rfl) (qX4_init_2 1 28 rfl)
theorem dX4_init_34 : decode cX4_init 34 = .ok (.aload_n 0, 1) := @dq_o42 cX4_init 34 (qX4_init_2 2 42 rfl)
theorem dX4_init_35 : decode cX4_init 35 = .ok (.bipush 12, 2) := @dq_o16 cX4_init 35 12 (qX4_init_2 3 16 rfl) (qX4_init_2 4 12 rfl)
theorem dX4_init_37 : decode cX4_init 37 = .ok (.newarray .int, 2) := by decide +kernel
theorem dX4_init_39 : decode cX4_init 39 = .ok (.putfield 32, 3) := @dq_o181 cX4_init 39 0 32 (qX4_init_2 7 181 rfl) (qX4_init_2 8 0 rfl) (qX4_init_2 9 32 rfl)
theorem dX4_init_42 : decode cX4_init 42 = .ok (.aload_n 0, 1) := @dq_o42 cX4_init 42 (qX4_init_2 10 42 rfl)
theorem dX4_init_43 : decode cX4_init 43 = .ok (.iconst 0, 1) := @dq_o3 cX4_init 43 (qX4_init_2 11 3 rfl)
theorem dX4_init_44 : decode cX4_init 44 = .ok (.putfield 36, 3) := @dq_o181 cX4_init 44 0 36 (qX4_init_2 12 181 rfl) (qX4_init_2 13 0 rfl) (qX4_init_2 14 36 rfl)
theorem dX4_init_47 : decode cX4_init 47 = .ok (.aload_n 0, 1) := @dq_o42 cX4_init 47 (qX4_init_2 15 42 rfl)
theorem dX4_init_48 : decode cX4_init 48 = .ok (.bipush 64, 2) := @dq_o16 cX4_init 48 64 (qX4_init_3 0 16 rfl) (qX4_init_3 1 64 rfl)
theorem dX4_init_50 : decode cX4_init 50 = .ok (.newarray .long, 2) := by decide +kernel
theorem dX4_init_52 : decode cX4_init 52 = .ok (.putfield 39, 3) := @dq_o181 cX4_init 52 0 39 (qX4_init_3 4 181 rfl) (qX4_init_3 5 0 rfl) (qX4_init_3 6 39 rfl)
theorem dX4_init_55 : decode cX4_init 55 = .ok (.aload_n 0, 1) := @dq_o42 cX4_init 55 (qX4_init_3 7 42 rfl)
theorem dX4_init_56 : decode cX4_init 56 = .ok (.bipush 6, 2) := @dq_o16 cX4_init 56 6 (qX4_init_3 8 16 rfl) (qX4_init_3 9 6 rfl)
theorem dX4_init_58 : decode cX4_init 58 = .ok (.newarray .int, 2) := by decide +kernel
theorem dX4_init_60 : decode cX4_init 60 = .ok (.putfield 43, 3) := @dq_o181 cX4_init 60 0 43 (qX4_init_3 12 181 rfl) (qX4_init_3 13 0 rfl) (qX4_init_3 14 43 rfl)
theorem dX4_init_63 : decode cX4_init 63 = .ok (.aload_n 0, 1) := @dq_o42 cX4_init 63 (qX4_init_3 15 42 rfl)
theorem dX4_init_64 : decode cX4_init 64 = .ok (.aload_n 1, 1) := @dq_o43 cX4_init 64 (qX4_init_4 0 43 rfl)
theorem dX4_init_65 : decode cX4_init 65 = .ok (.putfield 46, 3) := @dq_o181 cX4_init 65 0 46 (qX4_init_4 1 181 rfl) (qX4_init_4 2 0 rfl) (qX4_init_4 3 46 rfl)
theorem dX4_init_68 : decode cX4_init 68 = .ok (.iconst 0, 1) := @dq_o3 cX4_init 68 (qX4_init_4 4 3 rfl)
theorem dX4_init_69 : decode cX4_init 69 = .ok (.istore_n 2, 1) := @dq_o61 cX4_init 69 (qX4_init_4 5 61 rfl)
theorem dX4_init_70 : decode cX4_init 70 = .ok (.iload_n 2, 1) := @dq_o28 cX4_init 70 (qX4_init_4 6 28 rfl)
theorem dX4_init_71 : decode cX4_init 71 = .ok (.bipush 6, 2) := @dq_o16 cX4_init 71 6 (qX4_init_4 7 16 rfl) (qX4_init_4 8 6 rfl)
theorem dX4_init_73 : decode cX4_init 73 = .ok (.if_icmp .ge 22, 3) := @dq_o162 cX4_init 73 0 22 (qX4_init_4 9 162 rfl) (qX4_init_4 10 0 rfl) (qX4_init_4 11 22 rfl)
theorem dX4_init_76 : decode cX4_init 76 = .ok (.aload_n 0, 1) := @dq_o42 cX4_init 76 (qX4_init_4 12 42 rfl)
theorem dX4_init_77 : decode cX4_init 77 = .ok (.getfield 20, 3) := @dq_o180 cX4_init 77 0 20 (qX4_init_4 13 180 rfl) (qX4_init_4 14 0 rfl) (qX4_init_4 15 20 rfl)
theorem dX4_init_80 : decode cX4_init 80 = .ok (.iload_n 2, 1) := @dq_o28 cX4_init 80 (qX4_init_5 0 28 rfl)
theorem dX4_init_81 : decode cX4_init 81 = .ok (.new 18, 3) := @dq_o187 cX4_init 81 0 18 (qX4_init_5 1 187 rfl) (qX4_init_5 2 0 rfl) (qX4_init_5 3 18 rfl)
theorem dX4_init_84 : decode cX4_init 84 = .ok (.dup, 1) := @dq_o89 cX4_init 84 (qX4_init_5 4 89 rfl)
theorem dX4_init_85 : decode cX4_init 85 = .ok (.invokespecial 50, 3) := @dq_o183 cX4_init 85 0 50 (qX4_init_5 5 183 rfl) (qX4_init_5 6 0 rfl) (qX4_init_5 7 50 rfl)
theorem dX4_init_88 : decode cX4_init 88 = .ok (.aastore, 1) := @dq_o83 cX4_init 88 (qX4_init_5 8 83 rfl)
theorem dX4_init_89 : decode cX4_init 89 = .ok (.iinc 2 1, 3) := @dq_o132 cX4_init 89 2 1 (qX4_init_5 9 132 rfl) (qX4_init_5 10 2 rfl) (qX4_init_5 11 1 rfl)
theorem dX4_init_92 : decode cX4_init 92 = .ok (.goto (-22), 3) := @dq_o167 cX4_init 92 255 234 (qX4_init_5 12 167 rfl) (qX4_init_5 13 255 rfl) (qX4_init_5 14 234 rfl)
theorem dX4_init_95 : decode cX4_init 95 = .ok (.return_, 1) := @dq_o177 cX4_init 95 (qX4_init_5 15 177 rfl)
abbrev qaX4_follow_0 : List Nat := [42, 180, 0, 12, 43, 182, 0, 51, 153, 0, 4, 177, 42, 180, 0, 12]
abbrev qaX4_follow_1 : List Nat := [43, 182, 0, 55, 42, 89, 180, 0, 28, 4, 96, 181, 0, 28, 42, 42]
abbrev qaX4_follow_2 : List Nat := [182, 0, 59, 181, 0, 24, 3, 61, 28, 16, 6, 162, 0, 19, 42, 180]
abbrev qaX4_follow_3 : List Nat := [0, 20, 28, 50, 3, 181, 0, 63, 132, 2, 1, 167, 255, 237, 42, 180]
abbrev qaX4_follow_4 : List Nat := [0, 24, 153, 0, 7, 42, 182, 0, 66, 177]
def qtX4_follow_5 : List Nat := []
def qtX4_follow_4 : List Nat := qaX4_follow_4 ++ qtX4_follow_5
def qtX4_follow_3 : List Nat := qaX4_follow_3 ++ qtX4_follow_4
def qtX4_follow_2 : List Nat := qaX4_follow_2 ++ qtX4_follow_3
def qtX4_follow_1 : List Nat := qaX4_follow_1 ++ qtX4_follow_2
def qtX4_follow_0 : List Nat := qaX4_follow_0 ++ qtX4_follow_1
theorem qeX4_follow : cX4_follow.data.toList.map UInt8.toNat = qtX4_follow_0 := by decide +kernel
theorem qsX4_follow_0 : ∀ i, dqNth qtX4_follow_0 (0 + i) = dqNth qtX4_follow_0 i := fun i => by rw [Nat.zero_add]
theorem qsX4_follow_1 : ∀ i, dqNth qtX4_follow_0 (16 + i) = dqNth qtX4_follow_1 i := dq_step qsX4_follow_0 rfl rfl
theorem qsX4_follow_2 : ∀ i, dqNth qtX4_follow_0 (32 + i) = dqNth qtX4_follow_2 i := dq_step qsX4_follow_1 rfl rfl
theorem qsX4_follow_3 : ∀ i, dqNth qtX4_follow_0 (48 + i) = dqNth qtX4_follow_3 i := dq_step qsX4_follow_2 rfl rfl
theorem qsX4_follow_4 : ∀ i, dqNth qtX4_follow_0 (64 + i) = dqNth qtX4_follow_4 i := dq_step qsX4_follow_3 rfl rfl
theorem qX4_follow_0 (i b : Nat) (h : dqNth qaX4_follow_0 i = some b) : DqBy cX4_follow (0 + i) b := dqBy_of qeX4_follow ((qsX4_follow_0 i).trans (dq_in h))
theorem qX4_follow_1 (i b : Nat) (h : dqNth qaX4_follow_1 i = some b) : DqBy cX4_follow (16 + i) b := dqBy_of qeX4_follow ((qsX4_follow_1 i).trans (dq_in h))
theorem qX4_follow_2 (i b : Nat) (h : dqNth qaX4_follow_2 i = some b) : DqBy cX4_follow (32 + i) b := dqBy_of qeX4_follow ((qsX4_follow_2 i).trans (dq_in h))
theorem qX4_follow_3 (i b : Nat) (h : dqNth qaX4_follow_3 i = some b) : DqBy cX4_follow (48 + i) b := dqBy_of qeX4_follow ((qsX4_follow_3 i).trans (dq_in h))
theorem qX4_follow_4 (i b : Nat) (h : dqNth qaX4_follow_4 i = some b) : DqBy cX4_follow (64 + i) b := dqBy_of qeX4_follow ((qsX4_follow_4 i).trans (dq_in h))
theorem dX4_follow_0 : decode cX4_follow 0 = .ok (.aload_n 0, 1) := @dq_o42 cX4_follow 0 (qX4_follow_0 0 42 rfl)
theorem dX4_follow_1 : decode cX4_follow 1 = .ok (.getfield 12, 3) := @dq_o180 cX4_follow 1 0 12 (qX4_follow_0 1 180 rfl) (qX4_follow_0 2 0 rfl) (qX4_follow_0 3 12 rfl)
theorem dX4_follow_4 : decode cX4_follow 4 = .ok (.aload_n 1, 1) := @dq_o43 cX4_follow 4 (qX4_follow_0 4 43 rfl)
theorem dX4_follow_5 : decode cX4_follow 5 = .ok (.invokevirtual 51, 3) := @dq_o182 cX4_follow 5 0 51 (qX4_follow_0 5 182 rfl) (qX4_follow_0 6 0 rfl) (qX4_follow_0 7 51 rfl)
theorem dX4_follow_8 : decode cX4_follow 8 = .ok (.ifCond .eq 4, 3) := @dq_o153 cX4_follow 8 0 4 (qX4_follow_0 8 153 rfl) (qX4_follow_0 9 0 rfl) (qX4_follow_0 10 4 rfl)
theorem dX4_follow_11 : decode cX4_follow 11 = .ok (.return_, 1) := @dq_o177 cX4_follow 11 (qX4_follow_0 11 177 rfl)
theorem dX4_follow_12 : decode cX4_follow 12 = .ok (.aload_n 0, 1) := @dq_o42 cX4_follow 12 (qX4_follow_0 12 42 rfl)
theorem dX4_follow_13 : decode cX4_follow 13 = .ok (.getfield 12, 3) := @dq_o180 cX4_follow 13 0 12 (qX4_follow_0 13 180 rfl) (qX4_follow_0 14 0 rfl) (qX4_follow_0 15 12 rfl)
theorem dX4_follow_16 : decode cX4_follow 16 = .ok (.aload_n 1, 1) := @dq_o43 cX4_follow 16 (qX4_follow_1 0 43 rfl)
theorem dX4_follow_17 : decode cX4_follow 17 = .ok (.invokevirtual 55, 3) := @dq_o182 cX4_follow 17 0 55 (qX4_follow_1 1 182 rfl) (qX4_follow_1 2 0 rfl) (qX4_follow_1 3 55 rfl)
theorem dX4_follow_20 : decode cX4_follow 20 = .ok (.aload_n 0, 1) := @dq_o42 cX4_follow 20 (qX4_follow_1 4 42 rfl)
theorem dX4_follow_21 : decode cX4_follow 21 = .ok (.dup, 1) := @dq_o89 cX4_follow 21 (qX4_follow_1 5 89 rfl)
theorem dX4_follow_22 : decode cX4_follow 22 = .ok (.getfield 28, 3) := @dq_o180 cX4_follow 22 0 28 (qX4_follow_1 6 180 rfl) (qX4_follow_1 7 0 rfl) (qX4_follow_1 8 28 rfl)
theorem dX4_follow_25 : decode cX4_follow 25 = .ok (.iconst 1, 1) := @dq_o4 cX4_follow 25 (qX4_follow_1 9 4 rfl)
theorem dX4_follow_26 : decode cX4_follow 26 = .ok (.iadd, 1) := @dq_o96 cX4_follow 26 (qX4_follow_1 10 96 rfl)
theorem dX4_follow_27 : decode cX4_follow 27 = .ok (.putfield 28, 3) := @dq_o181 cX4_follow 27 0 28 (qX4_follow_1 11 181 rfl) (qX4_follow_1 12 0 rfl) (qX4_follow_1 13 28 rfl)
theorem dX4_follow_30 : decode cX4_follow 30 = .ok (.aload_n 0, 1) := @dq_o42 cX4_follow 30 (qX4_follow_1 14 42 rfl)
theorem dX4_follow_31 : decode cX4_follow 31 = .ok (.aload_n 0, 1) := @dq_o42 cX4_follow 31 (qX4_follow_1 15 42 rfl)
theorem dX4_follow_32 : decode cX4_follow 32 = .ok (.invokevirtual 59, 3) := @dq_o182 cX4_follow 32 0 59 (qX4_follow_2 0 182 rfl) (qX4_follow_2 1 0 rfl) (qX4_follow_2 2 59 rfl)
theorem dX4_follow_35 : decode cX4_follow 35 = .ok (.putfield 24, 3) := @dq_o181 cX4_follow 35 0 24 (qX4_follow_2 3 181 rfl) (qX4_follow_2 4 0 rfl) (qX4_follow_2 5 24 rfl)
theorem dX4_follow_38 : decode cX4_follow 38 = .ok (.iconst 0, 1) := @dq_o3 cX4_follow 38 (qX4_follow_2 6 3 rfl)
theorem dX4_follow_39 : decode cX4_follow 39 = .ok (.istore_n 2, 1) := @dq_o61 cX4_follow 39 (qX4_follow_2 7 61 rfl)
theorem dX4_follow_40 : decode cX4_follow 40 = .ok (.iload_n 2, 1) := @dq_o28 cX4_follow 40 (qX4_follow_2 8 28 rfl)
theorem dX4_follow_41 : decode cX4_follow 41 = .ok (.bipush 6, 2) := @dq_o16 cX4_follow 41 6 (qX4_follow_2 9 16 rfl) (qX4_follow_2 10 6 rfl)
theorem dX4_follow_43 : decode cX4_follow 43 = .ok (.if_icmp .ge 19, 3) := @dq_o162 cX4_follow 43 0 19 (qX4_follow_2 11 162 rfl) (qX4_follow_2 12 0 rfl) (qX4_follow_2 13 19 rfl)
theorem dX4_follow_46 : decode cX4_follow 46 = .ok (.aload_n 0, 1) := @dq_o42 cX4_follow 46 (qX4_follow_2 14 42 rfl)
theorem dX4_follow_47 : decode cX4_follow 47 = .ok (.getfield 20, 3) := @dq_o180 cX4_follow 47 0 20 (qX4_follow_2 15 180 rfl) (qX4_follow_3 0 0 rfl) (qX4_follow_3 1 20 rfl)
theorem dX4_follow_50 : decode cX4_follow 50 = .ok (.iload_n 2, 1) := @dq_o28 cX4_follow 50 (qX4_follow_3 2 28 rfl)
theorem dX4_follow_51 : decode cX4_follow 51 = .ok (.aaload, 1) := @dq_o50 cX4_follow 51 (qX4_follow_3 3 50 rfl)
theorem dX4_follow_52 : decode cX4_follow 52 = .ok (.iconst 0, 1) := @dq_o3 cX4_follow 52 (qX4_follow_3 4 3 rfl)
theorem dX4_follow_53 : decode cX4_follow 53 = .ok (.putfield 63, 3) := @dq_o181 cX4_follow 53 0 63 (qX4_follow_3 5 181 rfl) (qX4_follow_3 6 0 rfl) (qX4_follow_3 7 63 rfl)
theorem dX4_follow_56 : decode cX4_follow 56 = .ok (.iinc 2 1, 3) := @dq_o132 cX4_follow 56 2 1 (qX4_follow_3 8 132 rfl) (qX4_follow_3 9 2 rfl) (qX4_follow_3 10 1 rfl)
theorem dX4_follow_59 : decode cX4_follow 59 = .ok (.goto (-19), 3) := @dq_o167 cX4_follow 59 255 237 (qX4_follow_3 11 167 rfl) (qX4_follow_3 12 255 rfl) (qX4_follow_3 13 237 rfl)
theorem dX4_follow_62 : decode cX4_follow 62 = .ok (.aload_n 0, 1) := @dq_o42 cX4_follow 62 (qX4_follow_3 14 42 rfl)
theorem dX4_follow_63 : decode cX4_follow 63 = .ok (.getfield 24, 3) := @dq_o180 cX4_follow 63 0 24 (qX4_follow_3 15 180 rfl) (qX4_follow_4 0 0 rfl) (qX4_follow_4 1 24 rfl)
theorem dX4_follow_66 : decode cX4_follow 66 = .ok (.ifCond .eq 7, 3) := @dq_o153 cX4_follow 66 0 7 (qX4_follow_4 2 153 rfl) (qX4_follow_4 3 0 rfl) (qX4_follow_4 4 7 rfl)
theorem dX4_follow_69 : decode cX4_follow 69 = .ok (.aload_n 0, 1) := @dq_o42 cX4_follow 69 (qX4_follow_4 5 42 rfl)
theorem dX4_follow_70 : decode cX4_follow 70 = .ok (.invokevirtual 66, 3) := @dq_o182 cX4_follow 70 0 66 (qX4_follow_4 6 182 rfl) (qX4_follow_4 7 0 rfl) (qX4_follow_4 8 66 rfl)
theorem dX4_follow_73 : decode cX4_follow 73 = .ok (.return_, 1) := @dq_o177 cX4_follow 73 (qX4_follow_4 9 177 rfl)
abbrev qaX4_termCount_0 : List Nat := [3, 60, 3, 61, 28, 16, 6, 162, 0, 21, 27, 42, 180, 0, 20, 28]
abbrev qaX4_termCount_1 : List Nat := [50, 180, 0, 63, 96, 60, 132, 2, 1, 167, 255, 235, 27, 172]
def qtX4_termCount_2 : List Nat := []
def qtX4_termCount_1 : List Nat := qaX4_termCount_1 ++ qtX4_termCount_2
def qtX4_termCount_0 : List Nat := qaX4_termCount_0 ++ qtX4_termCount_1
theorem qeX4_termCount : cX4_termCount.data.toList.map UInt8.toNat = qtX4_termCount_0 := by decide +kernel
theorem qsX4_termCount_0 : ∀ i, dqNth qtX4_termCount_0 (0 + i) = dqNth qtX4_termCount_0 i := fun i => by rw [Nat.zero_add]
theorem qsX4_termCount_1 : ∀ i, dqNth qtX4_termCount_0 (16 + i) = dqNth qtX4_termCount_1 i := dq_step qsX4_termCount_0 rfl rfl
theorem qX4_termCount_0 (i b : Nat) (h : dqNth qaX4_termCount_0 i = some b) : DqBy cX4_termCount (0 + i) b := dqBy_of qeX4_termCount ((qsX4_termCount_0 i).trans (dq_in h))
theorem qX4_termCount_1 (i b : Nat) (h : dqNth qaX4_termCount_1 i = some b) : DqBy cX4_termCount (16 + i) b := dqBy_of qeX4_termCount ((qsX4_termCount_1 i).trans (dq_in h))
theorem dX4_termCount_0 : decode cX4_termCount 0 = .ok (.iconst 0, 1) := @dq_o3 cX4_termCount 0 (qX4_termCount_0 0 3 rfl)
theorem dX4_termCount_1 : decode cX4_termCount 1 = .ok (.istore_n 1, 1) := @dq_o60 cX4_termCount 1 (qX4_termCount_0 1 60 rfl)
theorem dX4_termCount_2 : decode cX4_termCount 2 = .ok (.iconst 0, 1) := @dq_o3 cX4_termCount 2 (qX4_termCount_0 2 3 rfl)
theorem dX4_termCount_3 : decode cX4_termCount 3 = .ok (.istore_n 2, 1) := @dq_o61 cX4_termCount 3 (qX4_termCount_0 3 61 rfl)
theorem dX4_termCount_4 : decode cX4_termCount 4 = .ok (.iload_n 2, 1) := @dq_o28 cX4_termCount 4 (qX4_termCount_0 4 28 rfl)
theorem dX4_termCount_5 : decode cX4_termCount 5 = .ok (.bipush 6, 2) := @dq_o16 cX4_termCount 5 6 (qX4_termCount_0 5 16 rfl) (qX4_termCount_0 6 6 rfl)
theorem dX4_termCount_7 : decode cX4_termCount 7 = .ok (.if_icmp .ge 21, 3) := @dq_o162 cX4_termCount 7 0 21 (qX4_termCount_0 7 162 rfl) (qX4_termCount_0 8 0 rfl) (qX4_termCount_0 9 21 rfl)
theorem dX4_termCount_10 : decode cX4_termCount 10 = .ok (.iload_n 1, 1) := @dq_o27 cX4_termCount 10 (qX4_termCount_0 10 27 rfl)
theorem dX4_termCount_11 : decode cX4_termCount 11 = .ok (.aload_n 0, 1) := @dq_o42 cX4_termCount 11 (qX4_termCount_0 11 42 rfl)
theorem dX4_termCount_12 : decode cX4_termCount 12 = .ok (.getfield 20, 3) := @dq_o180 cX4_termCount 12 0 20 (qX4_termCount_0 12 180 rfl) (qX4_termCount_0 13 0 rfl) (qX4_termCount_0 14 20 rfl)
theorem dX4_termCount_15 : decode cX4_termCount 15 = .ok (.iload_n 2, 1) := @dq_o28 cX4_termCount 15 (qX4_termCount_0 15 28 rfl)
theorem dX4_termCount_16 : decode cX4_termCount 16 = .ok (.aaload, 1) := @dq_o50 cX4_termCount 16 (qX4_termCount_1 0 50 rfl)
theorem dX4_termCount_17 : decode cX4_termCount 17 = .ok (.getfield 63, 3) := @dq_o180 cX4_termCount 17 0 63 (qX4_termCount_1 1 180 rfl) (qX4_termCount_1 2 0 rfl) (qX4_termCount_1 3 63 rfl)
theorem dX4_termCount_20 : decode cX4_termCount 20 = .ok (.iadd, 1) := @dq_o96 cX4_termCount 20 (qX4_termCount_1 4 96 rfl)
theorem dX4_termCount_21 : decode cX4_termCount 21 = .ok (.istore_n 1, 1) := @dq_o60 cX4_termCount 21 (qX4_termCount_1 5 60 rfl)
theorem dX4_termCount_22 : decode cX4_termCount 22 = .ok (.iinc 2 1, 3) := @dq_o132 cX4_termCount 22 2 1 (qX4_termCount_1 6 132 rfl) (qX4_termCount_1 7 2 rfl) (qX4_termCount_1 8 1 rfl)
theorem dX4_termCount_25 : decode cX4_termCount 25 = .ok (.goto (-21), 3) := @dq_o167 cX4_termCount 25 255 235 (qX4_termCount_1 9 167 rfl) (qX4_termCount_1 10 255 rfl) (qX4_termCount_1 11 235 rfl)
theorem dX4_termCount_28 : decode cX4_termCount 28 = .ok (.iload_n 1, 1) := @dq_o27 cX4_termCount 28 (qX4_termCount_1 12 27 rfl)
theorem dX4_termCount_29 : decode cX4_termCount 29 = .ok (.ireturn, 1) := @dq_o172 cX4_termCount 29 (qX4_termCount_1 13 172 rfl)
abbrev qaX4_put_0 : List Nat := [7, 27, 104, 54, 4, 21, 4, 155, 0, 12, 21, 4, 5, 96, 42, 190]
abbrev qaX4_put_1 : List Nat := [161, 0, 4, 177, 42, 21, 4, 10, 80, 42, 21, 4, 4, 96, 32, 80]
abbrev qaX4_put_2 : List Nat := [42, 21, 4, 5, 96, 32, 32, 10, 101, 105, 20, 0, 69, 109, 80, 177]
def qtX4_put_3 : List Nat := []
def qtX4_put_2 : List Nat := qaX4_put_2 ++ qtX4_put_3
def qtX4_put_1 : List Nat := qaX4_put_1 ++ qtX4_put_2
def qtX4_put_0 : List Nat := qaX4_put_0 ++ qtX4_put_1
theorem qeX4_put : cX4_put.data.toList.map UInt8.toNat = qtX4_put_0 := by decide +kernel
theorem qsX4_put_0 : ∀ i, dqNth qtX4_put_0 (0 + i) = dqNth qtX4_put_0 i := fun i => by rw [Nat.zero_add]
theorem qsX4_put_1 : ∀ i, dqNth qtX4_put_0 (16 + i) = dqNth qtX4_put_1 i := dq_step qsX4_put_0 rfl rfl
theorem qsX4_put_2 : ∀ i, dqNth qtX4_put_0 (32 + i) = dqNth qtX4_put_2 i := dq_step qsX4_put_1 rfl rfl
theorem qX4_put_0 (i b : Nat) (h : dqNth qaX4_put_0 i = some b) : DqBy cX4_put (0 + i) b := dqBy_of qeX4_put ((qsX4_put_0 i).trans (dq_in h))
theorem qX4_put_1 (i b : Nat) (h : dqNth qaX4_put_1 i = some b) : DqBy cX4_put (16 + i) b := dqBy_of qeX4_put ((qsX4_put_1 i).trans (dq_in h))
theorem qX4_put_2 (i b : Nat) (h : dqNth qaX4_put_2 i = some b) : DqBy cX4_put (32 + i) b := dqBy_of qeX4_put ((qsX4_put_2 i).trans (dq_in h))
theorem dX4_put_0 : decode cX4_put 0 = .ok (.iconst 4, 1) := @dq_o7 cX4_put 0 (qX4_put_0 0 7 rfl)
theorem dX4_put_1 : decode cX4_put 1 = .ok (.iload_n 1, 1) := @dq_o27 cX4_put 1 (qX4_put_0 1 27 rfl)
theorem dX4_put_2 : decode cX4_put 2 = .ok (.imul, 1) := @dq_o104 cX4_put 2 (qX4_put_0 2 104 rfl)
theorem dX4_put_3 : decode cX4_put 3 = .ok (.istore 4, 2) := @dq_o54 cX4_put 3 4 (qX4_put_0 3 54 rfl) (qX4_put_0 4 4 rfl)
theorem dX4_put_5 : decode cX4_put 5 = .ok (.iload 4, 2) := @dq_o21 cX4_put 5 4 (qX4_put_0 5 21 rfl) (qX4_put_0 6 4 rfl)
theorem dX4_put_7 : decode cX4_put 7 = .ok (.ifCond .lt 12, 3) := @dq_o155 cX4_put 7 0 12 (qX4_put_0 7 155 rfl) (qX4_put_0 8 0 rfl) (qX4_put_0 9 12 rfl)
theorem dX4_put_10 : decode cX4_put 10 = .ok (.iload 4, 2) := @dq_o21 cX4_put 10 4 (qX4_put_0 10 21 rfl) (qX4_put_0 11 4 rfl)
theorem dX4_put_12 : decode cX4_put 12 = .ok (.iconst 2, 1) := @dq_o5 cX4_put 12 (qX4_put_0 12 5 rfl)
theorem dX4_put_13 : decode cX4_put 13 = .ok (.iadd, 1) := @dq_o96 cX4_put 13 (qX4_put_0 13 96 rfl)
theorem dX4_put_14 : decode cX4_put 14 = .ok (.aload_n 0, 1) := @dq_o42 cX4_put 14 (qX4_put_0 14 42 rfl)
theorem dX4_put_15 : decode cX4_put 15 = .ok (.arraylength, 1) := @dq_o190 cX4_put 15 (qX4_put_0 15 190 rfl)
theorem dX4_put_16 : decode cX4_put 16 = .ok (.if_icmp .lt 4, 3) := @dq_o161 cX4_put 16 0 4 (qX4_put_1 0 161 rfl) (qX4_put_1 1 0 rfl) (qX4_put_1 2 4 rfl)
theorem dX4_put_19 : decode cX4_put 19 = .ok (.return_, 1) := @dq_o177 cX4_put 19 (qX4_put_1 3 177 rfl)
theorem dX4_put_20 : decode cX4_put 20 = .ok (.aload_n 0, 1) := @dq_o42 cX4_put 20 (qX4_put_1 4 42 rfl)
theorem dX4_put_21 : decode cX4_put 21 = .ok (.iload 4, 2) := @dq_o21 cX4_put 21 4 (qX4_put_1 5 21 rfl) (qX4_put_1 6 4 rfl)
theorem dX4_put_23 : decode cX4_put 23 = .ok (.lconst 1, 1) := @dq_o10 cX4_put 23 (qX4_put_1 7 10 rfl)
theorem dX4_put_24 : decode cX4_put 24 = .ok (.lastore, 1) := @dq_o80 cX4_put 24 (qX4_put_1 8 80 rfl)
theorem dX4_put_25 : decode cX4_put 25 = .ok (.aload_n 0, 1) := @dq_o42 cX4_put 25 (qX4_put_1 9 42 rfl)
theorem dX4_put_26 : decode cX4_put 26 = .ok (.iload 4, 2) := @dq_o21 cX4_put 26 4 (qX4_put_1 10 21 rfl) (qX4_put_1 11 4 rfl)
theorem dX4_put_28 : decode cX4_put 28 = .ok (.iconst 1, 1) := @dq_o4 cX4_put 28 (qX4_put_1 12 4 rfl)
theorem dX4_put_29 : decode cX4_put 29 = .ok (.iadd, 1) := @dq_o96 cX4_put 29 (qX4_put_1 13 96 rfl)
theorem dX4_put_30 : decode cX4_put 30 = .ok (.lload_n 2, 1) := @dq_o32 cX4_put 30 (qX4_put_1 14 32 rfl)
theorem dX4_put_31 : decode cX4_put 31 = .ok (.lastore, 1) := @dq_o80 cX4_put 31 (qX4_put_1 15 80 rfl)
theorem dX4_put_32 : decode cX4_put 32 = .ok (.aload_n 0, 1) := @dq_o42 cX4_put 32 (qX4_put_2 0 42 rfl)
theorem dX4_put_33 : decode cX4_put 33 = .ok (.iload 4, 2) := @dq_o21 cX4_put 33 4 (qX4_put_2 1 21 rfl) (qX4_put_2 2 4 rfl)
theorem dX4_put_35 : decode cX4_put 35 = .ok (.iconst 2, 1) := @dq_o5 cX4_put 35 (qX4_put_2 3 5 rfl)
theorem dX4_put_36 : decode cX4_put 36 = .ok (.iadd, 1) := @dq_o96 cX4_put 36 (qX4_put_2 4 96 rfl)
theorem dX4_put_37 : decode cX4_put 37 = .ok (.lload_n 2, 1) := @dq_o32 cX4_put 37 (qX4_put_2 5 32 rfl)
theorem dX4_put_38 : decode cX4_put 38 = .ok (.lload_n 2, 1) := @dq_o32 cX4_put 38 (qX4_put_2 6 32 rfl)
theorem dX4_put_39 : decode cX4_put 39 = .ok (.lconst 1, 1) := @dq_o10 cX4_put 39 (qX4_put_2 7 10 rfl)
theorem dX4_put_40 : decode cX4_put 40 = .ok (.lsub, 1) := @dq_o101 cX4_put 40 (qX4_put_2 8 101 rfl)
theorem dX4_put_41 : decode cX4_put 41 = .ok (.lmul, 1) := @dq_o105 cX4_put 41 (qX4_put_2 9 105 rfl)
theorem dX4_put_42 : decode cX4_put 42 = .ok (.ldc2_w 69, 3) := @dq_o20 cX4_put 42 0 69 (qX4_put_2 10 20 rfl) (qX4_put_2 11 0 rfl) (qX4_put_2 12 69 rfl)
theorem dX4_put_45 : decode cX4_put 45 = .ok (.ldiv, 1) := @dq_o109 cX4_put 45 (qX4_put_2 13 109 rfl)
theorem dX4_put_46 : decode cX4_put 46 = .ok (.lastore, 1) := @dq_o80 cX4_put 46 (qX4_put_2 14 80 rfl)
theorem dX4_put_47 : decode cX4_put 47 = .ok (.return_, 1) := @dq_o177 cX4_put 47 (qX4_put_2 15 177 rfl)
abbrev qaX4_areOverlapsAlike_0 : List Nat := [5, 60, 27, 42, 180, 0, 12, 180, 0, 71, 162, 0, 47, 4, 61, 28]
abbrev qaX4_areOverlapsAlike_1 : List Nat := [27, 162, 0, 34, 3, 62, 29, 28, 162, 0, 21, 42, 27, 28, 29, 182]
abbrev qaX4_areOverlapsAlike_2 : List Nat := [0, 72, 154, 0, 5, 3, 172, 132, 3, 1, 167, 255, 236, 132, 2, 1]
abbrev qaX4_areOverlapsAlike_3 : List Nat := [167, 255, 223, 132, 1, 1, 167, 255, 204, 4, 172]
def qtX4_areOverlapsAlike_4 : List Nat := []
def qtX4_areOverlapsAlike_3 : List Nat := qaX4_areOverlapsAlike_3 ++ qtX4_areOverlapsAlike_4
def qtX4_areOverlapsAlike_2 : List Nat := qaX4_areOverlapsAlike_2 ++ qtX4_areOverlapsAlike_3
def qtX4_areOverlapsAlike_1 : List Nat := qaX4_areOverlapsAlike_1 ++ qtX4_areOverlapsAlike_2
def qtX4_areOverlapsAlike_0 : List Nat := qaX4_areOverlapsAlike_0 ++ qtX4_areOverlapsAlike_1
theorem qeX4_areOverlapsAlike : cX4_areOverlapsAlike.data.toList.map UInt8.toNat = qtX4_areOverlapsAlike_0 := by decide +kernel
theorem qsX4_areOverlapsAlike_0 : ∀ i, dqNth qtX4_areOverlapsAlike_0 (0 + i) = dqNth qtX4_areOverlapsAlike_0 i := fun i => by rw [Nat.zero_add]
theorem qsX4_areOverlapsAlike_1 : ∀ i, dqNth qtX4_areOverlapsAlike_0 (16 + i) = dqNth qtX4_areOverlapsAlike_1 i := dq_step qsX4_areOverlapsAlike_0 rfl rfl
theorem qsX4_areOverlapsAlike_2 : ∀ i, dqNth qtX4_areOverlapsAlike_0 (32 + i) = dqNth qtX4_areOverlapsAlike_2 i := dq_step qsX4_areOverlapsAlike_1 rfl rfl
theorem qsX4_areOverlapsAlike_3 : ∀ i, dqNth qtX4_areOverlapsAlike_0 (48 + i) = dqNth qtX4_areOverlapsAlike_3 i := dq_step qsX4_areOverlapsAlike_2 rfl rfl
theorem qX4_areOverlapsAlike_0 (i b : Nat) (h : dqNth qaX4_areOverlapsAlike_0 i = some b) : DqBy cX4_areOverlapsAlike (0 + i) b := dqBy_of qeX4_areOverlapsAlike ((qsX4_areOverlapsAlike_0 i).trans (dq_in h))
theorem qX4_areOverlapsAlike_1 (i b : Nat) (h : dqNth qaX4_areOverlapsAlike_1 i = some b) : DqBy cX4_areOverlapsAlike (16 + i) b := dqBy_of qeX4_areOverlapsAlike ((qsX4_areOverlapsAlike_1 i).trans (dq_in h))
theorem qX4_areOverlapsAlike_2 (i b : Nat) (h : dqNth qaX4_areOverlapsAlike_2 i = some b) : DqBy cX4_areOverlapsAlike (32 + i) b := dqBy_of qeX4_areOverlapsAlike ((qsX4_areOverlapsAlike_2 i).trans (dq_in h))
theorem qX4_areOverlapsAlike_3 (i b : Nat) (h : dqNth qaX4_areOverlapsAlike_3 i = some b) : DqBy cX4_areOverlapsAlike (48 + i) b := dqBy_of qeX4_areOverlapsAlike ((qsX4_areOverlapsAlike_3 i).trans (dq_in h))
theorem dX4_areOverlapsAlike_0 : decode cX4_areOverlapsAlike 0 = .ok (.iconst 2, 1) := @dq_o5 cX4_areOverlapsAlike 0 (qX4_areOverlapsAlike_0 0 5 rfl)
theorem dX4_areOverlapsAlike_1 : decode cX4_areOverlapsAlike 1 = .ok (.istore_n 1, 1) := @dq_o60 cX4_areOverlapsAlike 1 (qX4_areOverlapsAlike_0 1 60 rfl)
theorem dX4_areOverlapsAlike_2 : decode cX4_areOverlapsAlike 2 = .ok (.iload_n 1, 1) := @dq_o27 cX4_areOverlapsAlike 2 (qX4_areOverlapsAlike_0 2 27 rfl)
theorem dX4_areOverlapsAlike_3 : decode cX4_areOverlapsAlike 3 = .ok (.aload_n 0, 1) := @dq_o42 cX4_areOverlapsAlike 3 (qX4_areOverlapsAlike_0 3 42 rfl)
theorem dX4_areOverlapsAlike_4 : decode cX4_areOverlapsAlike 4 = .ok (.getfield 12, 3) := @dq_o180 cX4_areOverlapsAlike 4 0 12 (qX4_areOverlapsAlike_0 4 180 rfl) (qX4_areOverlapsAlike_0 5 0 rfl) (qX4_areOverlapsAlike_0 6 12 rfl)
theorem dX4_areOverlapsAlike_7 : decode cX4_areOverlapsAlike 7 = .ok (.getfield 71, 3) := @dq_o180 cX4_areOverlapsAlike 7 0 71 (qX4_areOverlapsAlike_0 7 180 rfl) (qX4_areOverlapsAlike_0 8 0 rfl) (qX4_areOverlapsAlike_0 9 71 rfl)
theorem dX4_areOverlapsAlike_10 : decode cX4_areOverlapsAlike 10 = .ok (.if_icmp .ge 47, 3) := @dq_o162 cX4_areOverlapsAlike 10 0 47 (qX4_areOverlapsAlike_0 10 162 rfl) (qX4_areOverlapsAlike_0 11 0 rfl) (qX4_areOverlapsAlike_0 12 47 rfl)
theorem dX4_areOverlapsAlike_13 : decode cX4_areOverlapsAlike 13 = .ok (.iconst 1, 1) := @dq_o4 cX4_areOverlapsAlike 13 (qX4_areOverlapsAlike_0 13 4 rfl)
theorem dX4_areOverlapsAlike_14 : decode cX4_areOverlapsAlike 14 = .ok (.istore_n 2, 1) := @dq_o61 cX4_areOverlapsAlike 14 (qX4_areOverlapsAlike_0 14 61 rfl)
theorem dX4_areOverlapsAlike_15 : decode cX4_areOverlapsAlike 15 = .ok (.iload_n 2, 1) := @dq_o28 cX4_areOverlapsAlike 15 (qX4_areOverlapsAlike_0 15 28 rfl)
theorem dX4_areOverlapsAlike_16 : decode cX4_areOverlapsAlike 16 = .ok (.iload_n 1, 1) := @dq_o27 cX4_areOverlapsAlike 16 (qX4_areOverlapsAlike_1 0 27 rfl)
theorem dX4_areOverlapsAlike_17 : decode cX4_areOverlapsAlike 17 = .ok (.if_icmp .ge 34, 3) := @dq_o162 cX4_areOverlapsAlike 17 0 34 (qX4_areOverlapsAlike_1 1 162 rfl) (qX4_areOverlapsAlike_1 2 0 rfl) (qX4_areOverlapsAlike_1 3 34 rfl)
theorem dX4_areOverlapsAlike_20 : decode cX4_areOverlapsAlike 20 = .ok (.iconst 0, 1) := @dq_o3 cX4_areOverlapsAlike 20 (qX4_areOverlapsAlike_1 4 3 rfl)
theorem dX4_areOverlapsAlike_21 : decode cX4_areOverlapsAlike 21 = .ok (.istore_n 3, 1) := @dq_o62 cX4_areOverlapsAlike 21 (qX4_areOverlapsAlike_1 5 62 rfl)
theorem dX4_areOverlapsAlike_22 : decode cX4_areOverlapsAlike 22 = .ok (.iload_n 3, 1) := @dq_o29 cX4_areOverlapsAlike 22 (qX4_areOverlapsAlike_1 6 29 rfl)
theorem dX4_areOverlapsAlike_23 : decode cX4_areOverlapsAlike 23 = .ok (.iload_n 2, 1) := @dq_o28 cX4_areOverlapsAlike 23 (qX4_areOverlapsAlike_1 7 28 rfl)
theorem dX4_areOverlapsAlike_24 : decode cX4_areOverlapsAlike 24 = .ok (.if_icmp .ge 21, 3) := @dq_o162 cX4_areOverlapsAlike 24 0 21 (qX4_areOverlapsAlike_1 8 162 rfl) (qX4_areOverlapsAlike_1 9 0 rfl) (qX4_areOverlapsAlike_1 10 21 rfl)
theorem dX4_areOverlapsAlike_27 : decode cX4_areOverlapsAlike 27 = .ok (.aload_n 0, 1) := @dq_o42 cX4_areOverlapsAlike 27 (qX4_areOverlapsAlike_1 11 42 rfl)
theorem dX4_areOverlapsAlike_28 : decode cX4_areOverlapsAlike 28 = .ok (.iload_n 1, 1) := @dq_o27 cX4_areOverlapsAlike 28 (qX4_areOverlapsAlike_1 12 27 rfl)
theorem dX4_areOverlapsAlike_29 : decode cX4_areOverlapsAlike 29 = .ok (.iload_n 2, 1) := @dq_o28 cX4_areOverlapsAlike 29 (qX4_areOverlapsAlike_1 13 28 rfl)
theorem dX4_areOverlapsAlike_30 : decode cX4_areOverlapsAlike 30 = .ok (.iload_n 3, 1) := @dq_o29 cX4_areOverlapsAlike 30 (qX4_areOverlapsAlike_1 14 29 rfl)
theorem dX4_areOverlapsAlike_31 : decode cX4_areOverlapsAlike 31 = .ok (.invokevirtual 72, 3) := @dq_o182 cX4_areOverlapsAlike 31 0 72 (qX4_areOverlapsAlike_1 15 182 rfl) (qX4_areOverlapsAlike_2 0 0 rfl) (qX4_areOverlapsAlike_2 1 72 rfl)
theorem dX4_areOverlapsAlike_34 : decode cX4_areOverlapsAlike 34 = .ok (.ifCond .ne 5, 3) := @dq_o154 cX4_areOverlapsAlike 34 0 5 (qX4_areOverlapsAlike_2 2 154 rfl) (qX4_areOverlapsAlike_2 3 0 rfl) (qX4_areOverlapsAlike_2 4 5 rfl)
theorem dX4_areOverlapsAlike_37 : decode cX4_areOverlapsAlike 37 = .ok (.iconst 0, 1) := @dq_o3 cX4_areOverlapsAlike 37 (qX4_areOverlapsAlike_2 5 3 rfl)
theorem dX4_areOverlapsAlike_38 : decode cX4_areOverlapsAlike 38 = .ok (.ireturn, 1) := @dq_o172 cX4_areOverlapsAlike 38 (qX4_areOverlapsAlike_2 6 172 rfl)
theorem dX4_areOverlapsAlike_39 : decode cX4_areOverlapsAlike 39 = .ok (.iinc 3 1, 3) := @dq_o132 cX4_areOverlapsAlike 39 3 1 (qX4_areOverlapsAlike_2 7 132 rfl) (qX4_areOverlapsAlike_2 8 3 rfl) (qX4_areOverlapsAlike_2 9 1 rfl)
theorem dX4_areOverlapsAlike_42 : decode cX4_areOverlapsAlike 42 = .ok (.goto (-20), 3) := @dq_o167 cX4_areOverlapsAlike 42 255 236 (qX4_areOverlapsAlike_2 10 167 rfl) (qX4_areOverlapsAlike_2 11 255 rfl) (qX4_areOverlapsAlike_2 12 236 rfl)
theorem dX4_areOverlapsAlike_45 : decode cX4_areOverlapsAlike 45 = .ok (.iinc 2 1, 3) := @dq_o132 cX4_areOverlapsAlike 45 2 1 (qX4_areOverlapsAlike_2 13 132 rfl) (qX4_areOverlapsAlike_2 14 2 rfl) (qX4_areOverlapsAlike_2 15 1 rfl)
theorem dX4_areOverlapsAlike_48 : decode cX4_areOverlapsAlike 48 = .ok (.goto (-33), 3) := @dq_o167 cX4_areOverlapsAlike 48 255 223 (qX4_areOverlapsAlike_3 0 167 rfl) (qX4_areOverlapsAlike_3 1 255 rfl) (qX4_areOverlapsAlike_3 2 223 rfl)
theorem dX4_areOverlapsAlike_51 : decode cX4_areOverlapsAlike 51 = .ok (.iinc 1 1, 3) := @dq_o132 cX4_areOverlapsAlike 51 1 1 (qX4_areOverlapsAlike_3 3 132 rfl) (qX4_areOverlapsAlike_3 4 1 rfl) (qX4_areOverlapsAlike_3 5 1 rfl)
theorem dX4_areOverlapsAlike_54 : decode cX4_areOverlapsAlike 54 = .ok (.goto (-52), 3) := @dq_o167 cX4_areOverlapsAlike 54 255 204 (qX4_areOverlapsAlike_3 6 167 rfl) (qX4_areOverlapsAlike_3 7 255 rfl) (qX4_areOverlapsAlike_3 8 204 rfl)
theorem dX4_areOverlapsAlike_57 : decode cX4_areOverlapsAlike 57 = .ok (.iconst 1, 1) := @dq_o4 cX4_areOverlapsAlike 57 (qX4_areOverlapsAlike_3 9 4 rfl)
theorem dX4_areOverlapsAlike_58 : decode cX4_areOverlapsAlike 58 = .ok (.ireturn, 1) := @dq_o172 cX4_areOverlapsAlike 58 (qX4_areOverlapsAlike_3 10 172 rfl)
abbrev qaX4_isOverlapAlike_0 : List Nat := [42, 180, 0, 46, 182, 0, 76, 42, 180, 0, 46, 28, 182, 0, 81, 42]
abbrev qaX4_isOverlapAlike_1 : List Nat := [180, 0, 46, 27, 182, 0, 81, 42, 180, 0, 46, 42, 180, 0, 12, 27]
abbrev qaX4_isOverlapAlike_2 : List Nat := [28, 182, 0, 85, 42, 180, 0, 46, 29, 182, 0, 81, 42, 180, 0, 46]
abbrev qaX4_isOverlapAlike_3 : List Nat := [42, 180, 0, 12, 17, 3, 232, 182, 0, 89, 87, 42, 180, 0, 46, 180]
abbrev qaX4_isOverlapAlike_4 : List Nat := [0, 93, 3, 42, 180, 0, 43, 3, 16, 6, 184, 0, 94, 42, 180, 0]
abbrev qaX4_isOverlapAlike_5 : List Nat := [46, 182, 0, 76, 42, 180, 0, 46, 27, 182, 0, 81, 42, 180, 0, 46]
abbrev qaX4_isOverlapAlike_6 : List Nat := [29, 182, 0, 81, 42, 180, 0, 46, 28, 182, 0, 81, 42, 180, 0, 46]
abbrev qaX4_isOverlapAlike_7 : List Nat := [42, 180, 0, 12, 28, 29, 182, 0, 85, 42, 180, 0, 46, 42, 180, 0]
abbrev qaX4_isOverlapAlike_8 : List Nat := [12, 17, 3, 232, 182, 0, 89, 87, 3, 54, 4, 21, 4, 16, 6, 162]
abbrev qaX4_isOverlapAlike_9 : List Nat := [0, 31, 42, 180, 0, 43, 21, 4, 46, 42, 180, 0, 46, 180, 0, 93]
abbrev qaX4_isOverlapAlike_10 : List Nat := [21, 4, 46, 159, 0, 5, 3, 172, 132, 4, 1, 167, 255, 224, 4, 172]
def qtX4_isOverlapAlike_11 : List Nat := []
def qtX4_isOverlapAlike_10 : List Nat := qaX4_isOverlapAlike_10 ++ qtX4_isOverlapAlike_11
def qtX4_isOverlapAlike_9 : List Nat := qaX4_isOverlapAlike_9 ++ qtX4_isOverlapAlike_10
def qtX4_isOverlapAlike_8 : List Nat := qaX4_isOverlapAlike_8 ++ qtX4_isOverlapAlike_9
def qtX4_isOverlapAlike_7 : List Nat := qaX4_isOverlapAlike_7 ++ qtX4_isOverlapAlike_8
def qtX4_isOverlapAlike_6 : List Nat := qaX4_isOverlapAlike_6 ++ qtX4_isOverlapAlike_7
def qtX4_isOverlapAlike_5 : List Nat := qaX4_isOverlapAlike_5 ++ qtX4_isOverlapAlike_6
def qtX4_isOverlapAlike_4 : List Nat := qaX4_isOverlapAlike_4 ++ qtX4_isOverlapAlike_5
def qtX4_isOverlapAlike_3 : List Nat := qaX4_isOverlapAlike_3 ++ qtX4_isOverlapAlike_4
def qtX4_isOverlapAlike_2 : List Nat := qaX4_isOverlapAlike_2 ++ qtX4_isOverlapAlike_3
def qtX4_isOverlapAlike_1 : List Nat := qaX4_isOverlapAlike_1 ++ qtX4_isOverlapAlike_2
def qtX4_isOverlapAlike_0 : List Nat := qaX4_isOverlapAlike_0 ++ qtX4_isOverlapAlike_1
theorem qeX4_isOverlapAlike : cX4_isOverlapAlike.data.toList.map UInt8.toNat = qtX4_isOverlapAlike_0 := by decide +kernel
theorem qsX4_isOverlapAlike_0 : ∀ i, dqNth qtX4_isOverlapAlike_0 (0 + i) = dqNth qtX4_isOverlapAlike_0 i := fun i => by rw [Nat.zero_add]
theorem qsX4_isOverlapAlike_1 : ∀ i, dqNth qtX4_isOverlapAlike_0 (16 + i) = dqNth qtX4_isOverlapAlike_1 i := dq_step qsX4_isOverlapAlike_0 rfl rfl
theorem qsX4_isOverlapAlike_2 : ∀ i, dqNth qtX4_isOverlapAlike_0 (32 + i) = dqNth qtX4_isOverlapAlike_2 i := dq_step qsX4_isOverlapAlike_1 rfl rfl
theorem qsX4_isOverlapAlike_3 : ∀ i, dqNth qtX4_isOverlapAlike_0 (48 + i) = dqNth qtX4_isOverlapAlike_3 i := dq_step qsX4_isOverlapAlike_2 rfl rfl
theorem qsX4_isOverlapAlike_4 : ∀ i, dqNth qtX4_isOverlapAlike_0 (64 + i) = dqNth qtX4_isOverlapAlike_4 i := dq_step qsX4_isOverlapAlike_3 rfl rfl
theorem qsX4_isOverlapAlike_5 : ∀ i, dqNth qtX4_isOverlapAlike_0 (80 + i) = dqNth qtX4_isOverlapAlike_5 i := dq_step qsX4_isOverlapAlike_4 rfl rfl
theorem qsX4_isOverlapAlike_6 : ∀ i, dqNth qtX4_isOverlapAlike_0 (96 + i) = dqNth qtX4_isOverlapAlike_6 i := dq_step qsX4_isOverlapAlike_5 rfl rfl
theorem qsX4_isOverlapAlike_7 : ∀ i, dqNth qtX4_isOverlapAlike_0 (112 + i) = dqNth qtX4_isOverlapAlike_7 i := dq_step qsX4_isOverlapAlike_6 rfl rfl
theorem qsX4_isOverlapAlike_8 : ∀ i, dqNth qtX4_isOverlapAlike_0 (128 + i) = dqNth qtX4_isOverlapAlike_8 i := dq_step qsX4_isOverlapAlike_7 rfl rfl
theorem qsX4_isOverlapAlike_9 : ∀ i, dqNth qtX4_isOverlapAlike_0 (144 + i) = dqNth qtX4_isOverlapAlike_9 i := dq_step qsX4_isOverlapAlike_8 rfl rfl
theorem qsX4_isOverlapAlike_10 : ∀ i, dqNth qtX4_isOverlapAlike_0 (160 + i) = dqNth qtX4_isOverlapAlike_10 i := dq_step qsX4_isOverlapAlike_9 rfl rfl
theorem qX4_isOverlapAlike_0 (i b : Nat) (h : dqNth qaX4_isOverlapAlike_0 i = some b) : DqBy cX4_isOverlapAlike (0 + i) b := dqBy_of qeX4_isOverlapAlike ((qsX4_isOverlapAlike_0 i).trans (dq_in h))
theorem qX4_isOverlapAlike_1 (i b : Nat) (h : dqNth qaX4_isOverlapAlike_1 i = some b) : DqBy cX4_isOverlapAlike (16 + i) b := dqBy_of qeX4_isOverlapAlike ((qsX4_isOverlapAlike_1 i).trans (dq_in h))
theorem qX4_isOverlapAlike_2 (i b : Nat) (h : dqNth qaX4_isOverlapAlike_2 i = some b) : DqBy cX4_isOverlapAlike (32 + i) b := dqBy_of qeX4_isOverlapAlike ((qsX4_isOverlapAlike_2 i).trans (dq_in h))
theorem qX4_isOverlapAlike_3 (i b : Nat) (h : dqNth qaX4_isOverlapAlike_3 i = some b) : DqBy cX4_isOverlapAlike (48 + i) b := dqBy_of qeX4_isOverlapAlike ((qsX4_isOverlapAlike_3 i).trans (dq_in h))
theorem qX4_isOverlapAlike_4 (i b : Nat) (h : dqNth qaX4_isOverlapAlike_4 i = some b) : DqBy cX4_isOverlapAlike (64 + i) b := dqBy_of qeX4_isOverlapAlike ((qsX4_isOverlapAlike_4 i).trans (dq_in h))
theorem qX4_isOverlapAlike_5 (i b : Nat) (h : dqNth qaX4_isOverlapAlike_5 i = some b) : DqBy cX4_isOverlapAlike (80 + i) b := dqBy_of qeX4_isOverlapAlike ((qsX4_isOverlapAlike_5 i).trans (dq_in h))
theorem qX4_isOverlapAlike_6 (i b : Nat) (h : dqNth qaX4_isOverlapAlike_6 i = some b) : DqBy cX4_isOverlapAlike (96 + i) b := dqBy_of qeX4_isOverlapAlike ((qsX4_isOverlapAlike_6 i).trans (dq_in h))
theorem qX4_isOverlapAlike_7 (i b : Nat) (h : dqNth qaX4_isOverlapAlike_7 i = some b) : DqBy cX4_isOverlapAlike (112 + i) b := dqBy_of qeX4_isOverlapAlike ((qsX4_isOverlapAlike_7 i).trans (dq_in h))
theorem qX4_isOverlapAlike_8 (i b : Nat) (h : dqNth qaX4_isOverlapAlike_8 i = some b) : DqBy cX4_isOverlapAlike (128 + i) b := dqBy_of qeX4_isOverlapAlike ((qsX4_isOverlapAlike_8 i).trans (dq_in h))
theorem qX4_isOverlapAlike_9 (i b : Nat) (h : dqNth qaX4_isOverlapAlike_9 i = some b) : DqBy cX4_isOverlapAlike (144 + i) b := dqBy_of qeX4_isOverlapAlike ((qsX4_isOverlapAlike_9 i).trans (dq_in h))
theorem qX4_isOverlapAlike_10 (i b : Nat) (h : dqNth qaX4_isOverlapAlike_10 i = some b) : DqBy cX4_isOverlapAlike (160 + i) b := dqBy_of qeX4_isOverlapAlike ((qsX4_isOverlapAlike_10 i).trans (dq_in h))
theorem dX4_isOverlapAlike_0 : decode cX4_isOverlapAlike 0 = .ok (.aload_n 0, 1) := @dq_o42 cX4_isOverlapAlike 0 (qX4_isOverlapAlike_0 0 42 rfl)
theorem dX4_isOverlapAlike_1 : decode cX4_isOverlapAlike 1 = .ok (.getfield 46, 3) := @dq_o180 cX4_isOverlapAlike 1 0 46 (qX4_isOverlapAlike_0 1 180 rfl) (qX4_isOverlapAlike_0 2 0 rfl) (qX4_isOverlapAlike_0 3 46 rfl)
theorem dX4_isOverlapAlike_4 : decode cX4_isOverlapAlike 4 = .ok (.invokevirtual 76, 3) := @dq_o182 cX4_isOverlapAlike 4 0 76 (qX4_isOverlapAlike_0 4 182 rfl) (qX4_isOverlapAlike_0 5 0 rfl) (qX4_isOverlapAlike_0 6 76 rfl)
theorem dX4_isOverlapAlike_7 : decode cX4_isOverlapAlike 7 = .ok (.aload_n 0, 1) := @dq_o42 cX4_isOverlapAlike 7 (qX4_isOverlapAlike_0 7 42 rfl)
theorem dX4_isOverlapAlike_8 : decode cX4_isOverlapAlike 8 = .ok (.getfield 46, 3) := @dq_o180 cX4_isOverlapAlike 8 0 46 (qX4_isOverlapAlike_0 8 180 rfl) (qX4_isOverlapAlike_0 9 0 rfl) (qX4_isOverlapAlike_0 10 46 rfl)
theorem dX4_isOverlapAlike_11 : decode cX4_isOverlapAlike 11 = .ok (.iload_n 2, 1) := @dq_o28 cX4_isOverlapAlike 11 (qX4_isOverlapAlike_0 11 28 rfl)
theorem dX4_isOverlapAlike_12 : decode cX4_isOverlapAlike 12 = .ok (.invokevirtual 81, 3) := @dq_o182 cX4_isOverlapAlike 12 0 81 (qX4_isOverlapAlike_0 12 182 rfl) (qX4_isOverlapAlike_0 13 0 rfl) (qX4_isOverlapAlike_0 14 81 rfl)
theorem dX4_isOverlapAlike_15 : decode cX4_isOverlapAlike 15 = .ok (.aload_n 0, 1) := @dq_o42 cX4_isOverlapAlike 15 (qX4_isOverlapAlike_0 15 42 rfl)
theorem dX4_isOverlapAlike_16 : decode cX4_isOverlapAlike 16 = .ok (.getfield 46, 3) := @dq_o180 cX4_isOverlapAlike 16 0 46 (qX4_isOverlapAlike_1 0 180 rfl) (qX4_isOverlapAlike_1 1 0 rfl) (qX4_isOverlapAlike_1 2 46 rfl)
theorem dX4_isOverlapAlike_19 : decode cX4_isOverlapAlike 19 = .ok (.iload_n 1, 1) := @dq_o27 cX4_isOverlapAlike 19 (qX4_isOverlapAlike_1 3 27 rfl)
theorem dX4_isOverlapAlike_20 : decode cX4_isOverlapAlike 20 = .ok (.invokevirtual 81, 3) := @dq_o182 cX4_isOverlapAlike 20 0 81 (qX4_isOverlapAlike_1 4 182 rfl) (qX4_isOverlapAlike_1 5 0 rfl) (qX4_isOverlapAlike_1 6 81 rfl)
theorem dX4_isOverlapAlike_23 : decode cX4_isOverlapAlike 23 = .ok (.aload_n 0, 1) := @dq_o42 cX4_isOverlapAlike 23 (qX4_isOverlapAlike_1 7 42 rfl)
theorem dX4_isOverlapAlike_24 : decode cX4_isOverlapAlike 24 = .ok (.getfield 46, 3) := @dq_o180 cX4_isOverlapAlike 24 0 46 (qX4_isOverlapAlike_1 8 180 rfl) (qX4_isOverlapAlike_1 9 0 rfl) (qX4_isOverlapAlike_1 10 46 rfl)
theorem dX4_isOverlapAlike_27 : decode cX4_isOverlapAlike 27 = .ok (.aload_n 0, 1) := @dq_o42 cX4_isOverlapAlike 27 (qX4_isOverlapAlike_1 11 42 rfl)
theorem dX4_isOverlapAlike_28 : decode cX4_isOverlapAlike 28 = .ok (.getfield 12, 3) := @dq_o180 cX4_isOverlapAlike 28 0 12 (qX4_isOverlapAlike_1 12 180 rfl) (qX4_isOverlapAlike_1 13 0 rfl) (qX4_isOverlapAlike_1 14 12 rfl)
theorem dX4_isOverlapAlike_31 : decode cX4_isOverlapAlike 31 = .ok (.iload_n 1, 1) := @dq_o27 cX4_isOverlapAlike 31 (qX4_isOverlapAlike_1 15 27 rfl)
theorem dX4_isOverlapAlike_32 : decode cX4_isOverlapAlike 32 = .ok (.iload_n 2, 1) := @dq_o28 cX4_isOverlapAlike 32 (qX4_isOverlapAlike_2 0 28 rfl)
theorem dX4_isOverlapAlike_33 : decode cX4_isOverlapAlike 33 = .ok (.invokevirtual 85, 3) := @dq_o182 cX4_isOverlapAlike 33 0 85 (qX4_isOverlapAlike_2 1 182 rfl) (qX4_isOverlapAlike_2 2 0 rfl) (qX4_isOverlapAlike_2 3 85 rfl)
theorem dX4_isOverlapAlike_36 : decode cX4_isOverlapAlike 36 = .ok (.aload_n 0, 1) := @dq_o42 cX4_isOverlapAlike 36 (qX4_isOverlapAlike_2 4 42 rfl)
theorem dX4_isOverlapAlike_37 : decode cX4_isOverlapAlike 37 = .ok (.getfield 46, 3) := @dq_o180 cX4_isOverlapAlike 37 0 46 (qX4_isOverlapAlike_2 5 180 rfl) (qX4_isOverlapAlike_2 6 0 rfl) (qX4_isOverlapAlike_2 7 46 rfl)
theorem dX4_isOverlapAlike_40 : decode cX4_isOverlapAlike 40 = .ok (.iload_n 3, 1) := @dq_o29 cX4_isOverlapAlike 40 (qX4_isOverlapAlike_2 8 29 rfl)
theorem dX4_isOverlapAlike_41 : decode cX4_isOverlapAlike 41 = .ok (.invokevirtual 81, 3) := @dq_o182 cX4_isOverlapAlike 41 0 81 (qX4_isOverlapAlike_2 9 182 rfl) (qX4_isOverlapAlike_2 10 0 rfl) (qX4_isOverlapAlike_2 11 81 rfl)
theorem dX4_isOverlapAlike_44 : decode cX4_isOverlapAlike 44 = .ok (.aload_n 0, 1) := @dq_o42 cX4_isOverlapAlike 44 (qX4_isOverlapAlike_2 12 42 rfl)
theorem dX4_isOverlapAlike_45 : decode cX4_isOverlapAlike 45 = .ok (.getfield 46, 3) := @dq_o180 cX4_isOverlapAlike 45 0 46 (qX4_isOverlapAlike_2 13 180 rfl) (qX4_isOverlapAlike_2 14 0 rfl) (qX4_isOverlapAlike_2 15 46 rfl)
theorem dX4_isOverlapAlike_48 : decode cX4_isOverlapAlike 48 = .ok (.aload_n 0, 1) := @dq_o42 cX4_isOverlapAlike 48 (qX4_isOverlapAlike_3 0 42 rfl)
theorem dX4_isOverlapAlike_49 : decode cX4_isOverlapAlike 49 = .ok (.getfield 12, 3) := @dq_o180 cX4_isOverlapAlike 49 0 12 (qX4_isOverlapAlike_3 1 180 rfl) (qX4_isOverlapAlike_3 2 0 rfl) (qX4_isOverlapAlike_3 3 12 rfl)
theorem dX4_isOverlapAlike_52 : decode cX4_isOverlapAlike 52 = .ok (.sipush 1000, 3) := @dq_o17 cX4_isOverlapAlike 52 3 232 (qX4_isOverlapAlike_3 4 17 rfl) (qX4_isOverlapAlike_3 5 3 rfl) (qX4_isOverlapAlike_3 6 232 rfl)
theorem dX4_isOverlapAlike_55 : decode cX4_isOverlapAlike 55 = .ok (.invokevirtual 89, 3) := @dq_o182 cX4_isOverlapAlike 55 0 89 (qX4_isOverlapAlike_3 7 182 rfl) (qX4_isOverlapAlike_3 8 0 rfl) (qX4_isOverlapAlike_3 9 89 rfl)
theorem dX4_isOverlapAlike_58 : decode cX4_isOverlapAlike 58 = .ok (.pop, 1) := @dq_o87 cX4_isOverlapAlike 58 (qX4_isOverlapAlike_3 10 87 rfl)
theorem dX4_isOverlapAlike_59 : decode cX4_isOverlapAlike 59 = .ok (.aload_n 0, 1) := @dq_o42 cX4_isOverlapAlike 59 (qX4_isOverlapAlike_3 11 42 rfl)
theorem dX4_isOverlapAlike_60 : decode cX4_isOverlapAlike 60 = .ok (.getfield 46, 3) := @dq_o180 cX4_isOverlapAlike 60 0 46 (qX4_isOverlapAlike_3 12 180 rfl) (qX4_isOverlapAlike_3 13 0 rfl) (qX4_isOverlapAlike_3 14 46 rfl)
theorem dX4_isOverlapAlike_63 : decode cX4_isOverlapAlike 63 = .ok (.getfield 93, 3) := @dq_o180 cX4_isOverlapAlike 63 0 93 (qX4_isOverlapAlike_3 15 180 rfl) (qX4_isOverlapAlike_4 0 0 rfl) (qX4_isOverlapAlike_4 1 93 rfl)
theorem dX4_isOverlapAlike_66 : decode cX4_isOverlapAlike 66 = .ok (.iconst 0, 1) := @dq_o3 cX4_isOverlapAlike 66 (qX4_isOverlapAlike_4 2 3 rfl)
theorem dX4_isOverlapAlike_67 : decode cX4_isOverlapAlike 67 = .ok (.aload_n 0, 1) := @dq_o42 cX4_isOverlapAlike 67 (qX4_isOverlapAlike_4 3 42 rfl)
theorem dX4_isOverlapAlike_68 : decode cX4_isOverlapAlike 68 = .ok (.getfield 43, 3) := @dq_o180 cX4_isOverlapAlike 68 0 43 (qX4_isOverlapAlike_4 4 180 rfl) (qX4_isOverlapAlike_4 5 0 rfl) (qX4_isOverlapAlike_4 6 43 rfl)
theorem dX4_isOverlapAlike_71 : decode cX4_isOverlapAlike 71 = .ok (.iconst 0, 1) := @dq_o3 cX4_isOverlapAlike 71 (qX4_isOverlapAlike_4 7 3 rfl)
theorem dX4_isOverlapAlike_72 : decode cX4_isOverlapAlike 72 = .ok (.bipush 6, 2) := @dq_o16 cX4_isOverlapAlike 72 6 (qX4_isOverlapAlike_4 8 16 rfl) (qX4_isOverlapAlike_4 9 6 rfl)
theorem dX4_isOverlapAlike_74 : decode cX4_isOverlapAlike 74 = .ok (.invokestatic 94, 3) := @dq_o184 cX4_isOverlapAlike 74 0 94 (qX4_isOverlapAlike_4 10 184 rfl) (qX4_isOverlapAlike_4 11 0 rfl) (qX4_isOverlapAlike_4 12 94 rfl)
theorem dX4_isOverlapAlike_77 : decode cX4_isOverlapAlike 77 = .ok (.aload_n 0, 1) := @dq_o42 cX4_isOverlapAlike 77 (qX4_isOverlapAlike_4 13 42 rfl)
theorem dX4_isOverlapAlike_78 : decode cX4_isOverlapAlike 78 = .ok (.getfield 46, 3) := @dq_o180 cX4_isOverlapAlike 78 0 46 (qX4_isOverlapAlike_4 14 180 rfl) (qX4_isOverlapAlike_4 15 0 rfl) (qX4_isOverlapAlike_5 0 46 rfl)
theorem dX4_isOverlapAlike_81 : decode cX4_isOverlapAlike 81 = .ok (.invokevirtual 76, 3) := @dq_o182 cX4_isOverlapAlike 81 0 76 (qX4_isOverlapAlike_5 1 182 rfl) (qX4_isOverlapAlike_5 2 0 rfl) (qX4_isOverlapAlike_5 3 76 rfl)
theorem dX4_isOverlapAlike_84 : decode cX4_isOverlapAlike 84 = .ok (.aload_n 0, 1) := @dq_o42 cX4_isOverlapAlike 84 (qX4_isOverlapAlike_5 4 42 rfl)
theorem dX4_isOverlapAlike_85 : decode cX4_isOverlapAlike 85 = .ok (.getfield 46, 3) := @dq_o180 cX4_isOverlapAlike 85 0 46 (qX4_isOverlapAlike_5 5 180 rfl) (qX4_isOverlapAlike_5 6 0 rfl) (qX4_isOverlapAlike_5 7 46 rfl)
theorem dX4_isOverlapAlike_88 : decode cX4_isOverlapAlike 88 = .ok (.iload_n 1, 1) := @dq_o27 cX4_isOverlapAlike 88 (qX4_isOverlapAlike_5 8 27 rfl)
theorem dX4_isOverlapAlike_89 : decode cX4_isOverlapAlike 89 = .ok (.invokevirtual 81, 3) := @dq_o182 cX4_isOverlapAlike 89 0 81 (qX4_isOverlapAlike_5 9 182 rfl) (qX4_isOverlapAlike_5 10 0 rfl) (qX4_isOverlapAlike_5 11 81 rfl)
theorem dX4_isOverlapAlike_92 : decode cX4_isOverlapAlike 92 = .ok (.aload_n 0, 1) := @dq_o42 cX4_isOverlapAlike 92 (qX4_isOverlapAlike_5 12 42 rfl)
theorem dX4_isOverlapAlike_93 : decode cX4_isOverlapAlike 93 = .ok (.getfield 46, 3) := @dq_o180 cX4_isOverlapAlike 93 0 46 (qX4_isOverlapAlike_5 13 180 rfl) (qX4_isOverlapAlike_5 14 0 rfl) (qX4_isOverlapAlike_5 15 46 rfl)
theorem dX4_isOverlapAlike_96 : decode cX4_isOverlapAlike 96 = .ok (.iload_n 3, 1) := @dq_o29 cX4_isOverlapAlike 96 (qX4_isOverlapAlike_6 0 29 rfl)
theorem dX4_isOverlapAlike_97 : decode cX4_isOverlapAlike 97 = .ok (.invokevirtual 81, 3) := @dq_o182 cX4_isOverlapAlike 97 0 81 (qX4_isOverlapAlike_6 1 182 rfl) (qX4_isOverlapAlike_6 2 0 rfl) (qX4_isOverlapAlike_6 3 81 rfl)
theorem dX4_isOverlapAlike_100 : decode cX4_isOverlapAlike 100 = .ok (.aload_n 0, 1) := @dq_o42 cX4_isOverlapAlike 100 (qX4_isOverlapAlike_6 4 42 rfl)
theorem dX4_isOverlapAlike_101 : decode cX4_isOverlapAlike 101 = .ok (.getfield 46, 3) := @dq_o180 cX4_isOverlapAlike 101 0 46 (qX4_isOverlapAlike_6 5 180 rfl) (qX4_isOverlapAlike_6 6 0 rfl) (qX4_isOverlapAlike_6 7 46 rfl)
theorem dX4_isOverlapAlike_104 : decode cX4_isOverlapAlike 104 = .ok (.iload_n 2, 1) := @dq_o28 cX4_isOverlapAlike 104 (qX4_isOverlapAlike_6 8 28 rfl)
theorem dX4_isOverlapAlike_105 : decode cX4_isOverlapAlike 105 = .ok (.invokevirtual 81, 3) := @dq_o182 cX4_isOverlapAlike 105 0 81 (qX4_isOverlapAlike_6 9 182 rfl) (qX4_isOverlapAlike_6 10 0 rfl) (qX4_isOverlapAlike_6 11 81 rfl)
theorem dX4_isOverlapAlike_108 : decode cX4_isOverlapAlike 108 = .ok (.aload_n 0, 1) := @dq_o42 cX4_isOverlapAlike 108 (qX4_isOverlapAlike_6 12 42 rfl)
theorem dX4_isOverlapAlike_109 : decode cX4_isOverlapAlike 109 = .ok (.getfield 46, 3) := @dq_o180 cX4_isOverlapAlike 109 0 46 (qX4_isOverlapAlike_6 13 180 rfl) (qX4_isOverlapAlike_6 14 0 rfl) (qX4_isOverlapAlike_6 15 46 rfl)
theorem dX4_isOverlapAlike_112 : decode cX4_isOverlapAlike 112 = .ok (.aload_n 0, 1) := @dq_o42 cX4_isOverlapAlike 112 (qX4_isOverlapAlike_7 0 42 rfl)
theorem dX4_isOverlapAlike_113 : decode cX4_isOverlapAlike 113 = .ok (.getfield 12, 3) := @dq_o180 cX4_isOverlapAlike 113 0 12 (qX4_isOverlapAlike_7 1 180 rfl) (qX4_isOverlapAlike_7 2 0 rfl) (qX4_isOverlapAlike_7 3 12 rfl)
theorem dX4_isOverlapAlike_116 : decode cX4_isOverlapAlike 116 = .ok (.iload_n 2, 1) := @dq_o28 cX4_isOverlapAlike 116 (qX4_isOverlapAlike_7 4 28 rfl)
theorem dX4_isOverlapAlike_117 : decode cX4_isOverlapAlike 117 = .ok (.iload_n 3, 1) := @dq_o29 cX4_isOverlapAlike 117 (qX4_isOverlapAlike_7 5 29 rfl)
theorem dX4_isOverlapAlike_118 : decode cX4_isOverlapAlike 118 = .ok (.invokevirtual 85, 3) := @dq_o182 cX4_isOverlapAlike 118 0 85 (qX4_isOverlapAlike_7 6 182 rfl) (qX4_isOverlapAlike_7 7 0 rfl) (qX4_isOverlapAlike_7 8 85 rfl)
theorem dX4_isOverlapAlike_121 : decode cX4_isOverlapAlike 121 = .ok (.aload_n 0, 1) := @dq_o42 cX4_isOverlapAlike 121 (qX4_isOverlapAlike_7 9 42 rfl)
theorem dX4_isOverlapAlike_122 : decode cX4_isOverlapAlike 122 = .ok (.getfield 46, 3) := @dq_o180 cX4_isOverlapAlike 122 0 46 (qX4_isOverlapAlike_7 10 180 rfl) (qX4_isOverlapAlike_7 11 0 rfl) (qX4_isOverlapAlike_7 12 46 rfl)
theorem dX4_isOverlapAlike_125 : decode cX4_isOverlapAlike 125 = .ok (.aload_n 0, 1) := @dq_o42 cX4_isOverlapAlike 125 (qX4_isOverlapAlike_7 13 42 rfl)
theorem dX4_isOverlapAlike_126 : decode cX4_isOverlapAlike 126 = .ok (.getfield 12, 3) := @dq_o180 cX4_isOverlapAlike 126 0 12 (qX4_isOverlapAlike_7 14 180 rfl) (qX4_isOverlapAlike_7 15 0 rfl) (qX4_isOverlapAlike_8 0 12 rfl)
theorem dX4_isOverlapAlike_129 : decode cX4_isOverlapAlike 129 = .ok (.sipush 1000, 3) := @dq_o17 cX4_isOverlapAlike 129 3 232 (qX4_isOverlapAlike_8 1 17 rfl) (qX4_isOverlapAlike_8 2 3 rfl) (qX4_isOverlapAlike_8 3 232 rfl)
theorem dX4_isOverlapAlike_132 : decode cX4_isOverlapAlike 132 = .ok (.invokevirtual 89, 3) := @dq_o182 cX4_isOverlapAlike 132 0 89 (qX4_isOverlapAlike_8 4 182 rfl) (qX4_isOverlapAlike_8 5 0 rfl) (qX4_isOverlapAlike_8 6 89 rfl)
theorem dX4_isOverlapAlike_135 : decode cX4_isOverlapAlike 135 = .ok (.pop, 1) := @dq_o87 cX4_isOverlapAlike 135 (qX4_isOverlapAlike_8 7 87 rfl)
theorem dX4_isOverlapAlike_136 : decode cX4_isOverlapAlike 136 = .ok (.iconst 0, 1) := @dq_o3 cX4_isOverlapAlike 136 (qX4_isOverlapAlike_8 8 3 rfl)
theorem dX4_isOverlapAlike_137 : decode cX4_isOverlapAlike 137 = .ok (.istore 4, 2) := @dq_o54 cX4_isOverlapAlike 137 4 (qX4_isOverlapAlike_8 9 54 rfl) (qX4_isOverlapAlike_8 10 4 rfl)
theorem dX4_isOverlapAlike_139 : decode cX4_isOverlapAlike 139 = .ok (.iload 4, 2) := @dq_o21 cX4_isOverlapAlike 139 4 (qX4_isOverlapAlike_8 11 21 rfl) (qX4_isOverlapAlike_8 12 4 rfl)
theorem dX4_isOverlapAlike_141 : decode cX4_isOverlapAlike 141 = .ok (.bipush 6, 2) := @dq_o16 cX4_isOverlapAlike 141 6 (qX4_isOverlapAlike_8 13 16 rfl) (qX4_isOverlapAlike_8 14 6 rfl)
theorem dX4_isOverlapAlike_143 : decode cX4_isOverlapAlike 143 = .ok (.if_icmp .ge 31, 3) := @dq_o162 cX4_isOverlapAlike 143 0 31 (qX4_isOverlapAlike_8 15 162 rfl) (qX4_isOverlapAlike_9 0 0 rfl) (qX4_isOverlapAlike_9 1 31 rfl)
theorem dX4_isOverlapAlike_146 : decode cX4_isOverlapAlike 146 = .ok (.aload_n 0, 1) := @dq_o42 cX4_isOverlapAlike 146 (qX4_isOverlapAlike_9 2 42 rfl)
theorem dX4_isOverlapAlike_147 : decode cX4_isOverlapAlike 147 = .ok (.getfield 43, 3) := @dq_o180 cX4_isOverlapAlike 147 0 43 (qX4_isOverlapAlike_9 3 180 rfl) (qX4_isOverlapAlike_9 4 0 rfl) (qX4_isOverlapAlike_9 5 43 rfl)
theorem dX4_isOverlapAlike_150 : decode cX4_isOverlapAlike 150 = .ok (.iload 4, 2) := @dq_o21 cX4_isOverlapAlike 150 4 (qX4_isOverlapAlike_9 6 21 rfl) (qX4_isOverlapAlike_9 7 4 rfl)
theorem dX4_isOverlapAlike_152 : decode cX4_isOverlapAlike 152 = .ok (.iaload, 1) := @dq_o46 cX4_isOverlapAlike 152 (qX4_isOverlapAlike_9 8 46 rfl)
theorem dX4_isOverlapAlike_153 : decode cX4_isOverlapAlike 153 = .ok (.aload_n 0, 1) := @dq_o42 cX4_isOverlapAlike 153 (qX4_isOverlapAlike_9 9 42 rfl)
theorem dX4_isOverlapAlike_154 : decode cX4_isOverlapAlike 154 = .ok (.getfield 46, 3) := @dq_o180 cX4_isOverlapAlike 154 0 46 (qX4_isOverlapAlike_9 10 180 rfl) (qX4_isOverlapAlike_9 11 0 rfl) (qX4_isOverlapAlike_9 12 46 rfl)
theorem dX4_isOverlapAlike_157 : decode cX4_isOverlapAlike 157 = .ok (.getfield 93, 3) := @dq_o180 cX4_isOverlapAlike 157 0 93 (qX4_isOverlapAlike_9 13 180 rfl) (qX4_isOverlapAlike_9 14 0 rfl) (qX4_isOverlapAlike_9 15 93 rfl)
theorem dX4_isOverlapAlike_160 : decode cX4_isOverlapAlike 160 = .ok (.iload 4, 2) := @dq_o21 cX4_isOverlapAlike 160 4 (qX4_isOverlapAlike_10 0 21 rfl) (qX4_isOverlapAlike_10 1 4 rfl)
theorem dX4_isOverlapAlike_162 : decode cX4_isOverlapAlike 162 = .ok (.iaload, 1) := @dq_o46 cX4_isOverlapAlike 162 (qX4_isOverlapAlike_10 2 46 rfl)
theorem dX4_isOverlapAlike_163 : decode cX4_isOverlapAlike 163 = .ok (.if_icmp .eq 5, 3) := @dq_o159 cX4_isOverlapAlike 163 0 5 (qX4_isOverlapAlike_10 3 159 rfl) (qX4_isOverlapAlike_10 4 0 rfl) (qX4_isOverlapAlike_10 5 5 rfl)
theorem dX4_isOverlapAlike_166 : decode cX4_isOverlapAlike 166 = .ok (.iconst 0, 1) := @dq_o3 cX4_isOverlapAlike 166 (qX4_isOverlapAlike_10 6 3 rfl)
theorem dX4_isOverlapAlike_167 : decode cX4_isOverlapAlike 167 = .ok (.ireturn, 1) := @dq_o172 cX4_isOverlapAlike 167 (qX4_isOverlapAlike_10 7 172 rfl)
theorem dX4_isOverlapAlike_168 : decode cX4_isOverlapAlike 168 = .ok (.iinc 4 1, 3) := @dq_o132 cX4_isOverlapAlike 168 4 1 (qX4_isOverlapAlike_10 8 132 rfl) (qX4_isOverlapAlike_10 9 4 rfl) (qX4_isOverlapAlike_10 10 1 rfl)
theorem dX4_isOverlapAlike_171 : decode cX4_isOverlapAlike 171 = .ok (.goto (-32), 3) := @dq_o167 cX4_isOverlapAlike 171 255 224 (qX4_isOverlapAlike_10 11 167 rfl) (qX4_isOverlapAlike_10 12 255 rfl) (qX4_isOverlapAlike_10 13 224 rfl)
theorem dX4_isOverlapAlike_174 : decode cX4_isOverlapAlike 174 = .ok (.iconst 1, 1) := @dq_o4 cX4_isOverlapAlike 174 (qX4_isOverlapAlike_10 14 4 rfl)
theorem dX4_isOverlapAlike_175 : decode cX4_isOverlapAlike 175 = .ok (.ireturn, 1) := @dq_o172 cX4_isOverlapAlike 175 (qX4_isOverlapAlike_10 15 172 rfl)
abbrev qaX4_findTerms_0 : List Nat := [42, 180, 0, 32, 3, 184, 0, 100, 42, 3, 181, 0, 36, 3, 60, 27]
abbrev qaX4_findTerms_1 : List Nat := [17, 1, 199, 162, 0, 20, 42, 182, 0, 106, 153, 0, 13, 42, 182, 0]
abbrev qaX4_findTerms_2 : List Nat := [109, 132, 1, 1, 167, 255, 235, 177]
def qtX4_findTerms_3 : List Nat := []
def qtX4_findTerms_2 : List Nat := qaX4_findTerms_2 ++ qtX4_findTerms_3
def qtX4_findTerms_1 : List Nat := qaX4_findTerms_1 ++ qtX4_findTerms_2
def qtX4_findTerms_0 : List Nat := qaX4_findTerms_0 ++ qtX4_findTerms_1
theorem qeX4_findTerms : cX4_findTerms.data.toList.map UInt8.toNat = qtX4_findTerms_0 := by decide +kernel
theorem qsX4_findTerms_0 : ∀ i, dqNth qtX4_findTerms_0 (0 + i) = dqNth qtX4_findTerms_0 i := fun i => by rw [Nat.zero_add]
theorem qsX4_findTerms_1 : ∀ i, dqNth qtX4_findTerms_0 (16 + i) = dqNth qtX4_findTerms_1 i := dq_step qsX4_findTerms_0 rfl rfl
theorem qsX4_findTerms_2 : ∀ i, dqNth qtX4_findTerms_0 (32 + i) = dqNth qtX4_findTerms_2 i := dq_step qsX4_findTerms_1 rfl rfl
theorem qX4_findTerms_0 (i b : Nat) (h : dqNth qaX4_findTerms_0 i = some b) : DqBy cX4_findTerms (0 + i) b := dqBy_of qeX4_findTerms ((qsX4_findTerms_0 i).trans (dq_in h))
theorem qX4_findTerms_1 (i b : Nat) (h : dqNth qaX4_findTerms_1 i = some b) : DqBy cX4_findTerms (16 + i) b := dqBy_of qeX4_findTerms ((qsX4_findTerms_1 i).trans (dq_in h))
theorem qX4_findTerms_2 (i b : Nat) (h : dqNth qaX4_findTerms_2 i = some b) : DqBy cX4_findTerms (32 + i) b := dqBy_of qeX4_findTerms ((qsX4_findTerms_2 i).trans (dq_in h))
theorem dX4_findTerms_0 : decode cX4_findTerms 0 = .ok (.aload_n 0, 1) := @dq_o42 cX4_findTerms 0 (qX4_findTerms_0 0 42 rfl)
theorem dX4_findTerms_1 : decode cX4_findTerms 1 = .ok (.getfield 32, 3) := @dq_o180 cX4_findTerms 1 0 32 (qX4_findTerms_0 1 180 rfl) (qX4_findTerms_0 2 0 rfl) (qX4_findTerms_0 3 32 rfl)
theorem dX4_findTerms_4 : decode cX4_findTerms 4 = .ok (.iconst 0, 1) := @dq_o3 cX4_findTerms 4 (qX4_findTerms_0 4 3 rfl)
theorem dX4_findTerms_5 : decode cX4_findTerms 5 = .ok (.invokestatic 100, 3) := @dq_o184 cX4_findTerms 5 0 100 (qX4_findTerms_0 5 184 rfl) (qX4_findTerms_0 6 0 rfl) (qX4_findTerms_0 7 100 rfl)
theorem dX4_findTerms_8 : decode cX4_findTerms 8 = .ok (.aload_n 0, 1) := @dq_o42 cX4_findTerms 8 (qX4_findTerms_0 8 42 rfl)
theorem dX4_findTerms_9 : decode cX4_findTerms 9 = .ok (.iconst 0, 1) := @dq_o3 cX4_findTerms 9 (qX4_findTerms_0 9 3 rfl)
theorem dX4_findTerms_10 : decode cX4_findTerms 10 = .ok (.putfield 36, 3) := @dq_o181 cX4_findTerms 10 0 36 (qX4_findTerms_0 10 181 rfl) (qX4_findTerms_0 11 0 rfl) (qX4_findTerms_0 12 36 rfl)
theorem dX4_findTerms_13 : decode cX4_findTerms 13 = .ok (.iconst 0, 1) := @dq_o3 cX4_findTerms 13 (qX4_findTerms_0 13 3 rfl)
theorem dX4_findTerms_14 : decode cX4_findTerms 14 = .ok (.istore_n 1, 1) := @dq_o60 cX4_findTerms 14 (qX4_findTerms_0 14 60 rfl)
theorem dX4_findTerms_15 : decode cX4_findTerms 15 = .ok (.iload_n 1, 1) := @dq_o27 cX4_findTerms 15 (qX4_findTerms_0 15 27 rfl)
theorem dX4_findTerms_16 : decode cX4_findTerms 16 = .ok (.sipush 455, 3) := @dq_o17 cX4_findTerms 16 1 199 (qX4_findTerms_1 0 17 rfl) (qX4_findTerms_1 1 1 rfl) (qX4_findTerms_1 2 199 rfl)
theorem dX4_findTerms_19 : decode cX4_findTerms 19 = .ok (.if_icmp .ge 20, 3) := @dq_o162 cX4_findTerms 19 0 20 (qX4_findTerms_1 3 162 rfl) (qX4_findTerms_1 4 0 rfl) (qX4_findTerms_1 5 20 rfl)
theorem dX4_findTerms_22 : decode cX4_findTerms 22 = .ok (.aload_n 0, 1) := @dq_o42 cX4_findTerms 22 (qX4_findTerms_1 6 42 rfl)
theorem dX4_findTerms_23 : decode cX4_findTerms 23 = .ok (.invokevirtual 106, 3) := @dq_o182 cX4_findTerms 23 0 106 (qX4_findTerms_1 7 182 rfl) (qX4_findTerms_1 8 0 rfl) (qX4_findTerms_1 9 106 rfl)
theorem dX4_findTerms_26 : decode cX4_findTerms 26 = .ok (.ifCond .eq 13, 3) := @dq_o153 cX4_findTerms 26 0 13 (qX4_findTerms_1 10 153 rfl) (qX4_findTerms_1 11 0 rfl) (qX4_findTerms_1 12 13 rfl)
theorem dX4_findTerms_29 : decode cX4_findTerms 29 = .ok (.aload_n 0, 1) := @dq_o42 cX4_findTerms 29 (qX4_findTerms_1 13 42 rfl)
theorem dX4_findTerms_30 : decode cX4_findTerms 30 = .ok (.invokevirtual 109, 3) := @dq_o182 cX4_findTerms 30 0 109 (qX4_findTerms_1 14 182 rfl) (qX4_findTerms_1 15 0 rfl) (qX4_findTerms_2 0 109 rfl)
theorem dX4_findTerms_33 : decode cX4_findTerms 33 = .ok (.iinc 1 1, 3) := @dq_o132 cX4_findTerms 33 1 1 (qX4_findTerms_2 1 132 rfl) (qX4_findTerms_2 2 1 rfl) (qX4_findTerms_2 3 1 rfl)
theorem dX4_findTerms_36 : decode cX4_findTerms 36 = .ok (.goto (-21), 3) := @dq_o167 cX4_findTerms 36 255 235 (qX4_findTerms_2 4 167 rfl) (qX4_findTerms_2 5 255 rfl) (qX4_findTerms_2 6 235 rfl)
theorem dX4_findTerms_39 : decode cX4_findTerms 39 = .ok (.return_, 1) := @dq_o177 cX4_findTerms 39 (qX4_findTerms_2 7 177 rfl)
abbrev qaX4_goToNextPoint_0 : List Nat := [5, 42, 180, 0, 12, 180, 0, 71, 104, 4, 100, 60, 27, 155, 0, 140]
abbrev qaX4_goToNextPoint_1 : List Nat := [27, 42, 180, 0, 12, 180, 0, 71, 162, 0, 7, 27, 167, 0, 12, 27]
abbrev qaX4_goToNextPoint_2 : List Nat := [42, 180, 0, 12, 180, 0, 71, 100, 61, 27, 42, 180, 0, 12, 180, 0]
abbrev qaX4_goToNextPoint_3 : List Nat := [71, 162, 0, 7, 28, 167, 0, 7, 16, 6, 28, 96, 62, 42, 180, 0]
abbrev qaX4_goToNextPoint_4 : List Nat := [36, 42, 180, 0, 12, 180, 0, 112, 28, 46, 96, 42, 180, 0, 12, 182]
abbrev qaX4_goToNextPoint_5 : List Nat := [0, 115, 163, 0, 33, 42, 180, 0, 32, 29, 92, 46, 4, 96, 79, 42]
abbrev qaX4_goToNextPoint_6 : List Nat := [89, 180, 0, 36, 42, 180, 0, 12, 180, 0, 112, 28, 46, 96, 181, 0]
abbrev qaX4_goToNextPoint_7 : List Nat := [36, 4, 172, 42, 89, 180, 0, 36, 42, 180, 0, 32, 29, 46, 42, 180]
abbrev qaX4_goToNextPoint_8 : List Nat := [0, 12, 180, 0, 112, 28, 46, 104, 100, 181, 0, 36, 42, 180, 0, 32]
abbrev qaX4_goToNextPoint_9 : List Nat := [29, 3, 79, 132, 1, 255, 167, 255, 118, 3, 172]
def qtX4_goToNextPoint_10 : List Nat := []
def qtX4_goToNextPoint_9 : List Nat := qaX4_goToNextPoint_9 ++ qtX4_goToNextPoint_10
def qtX4_goToNextPoint_8 : List Nat := qaX4_goToNextPoint_8 ++ qtX4_goToNextPoint_9
def qtX4_goToNextPoint_7 : List Nat := qaX4_goToNextPoint_7 ++ qtX4_goToNextPoint_8
def qtX4_goToNextPoint_6 : List Nat := qaX4_goToNextPoint_6 ++ qtX4_goToNextPoint_7
def qtX4_goToNextPoint_5 : List Nat := qaX4_goToNextPoint_5 ++ qtX4_goToNextPoint_6
def qtX4_goToNextPoint_4 : List Nat := qaX4_goToNextPoint_4 ++ qtX4_goToNextPoint_5
def qtX4_goToNextPoint_3 : List Nat := qaX4_goToNextPoint_3 ++ qtX4_goToNextPoint_4
def qtX4_goToNextPoint_2 : List Nat := qaX4_goToNextPoint_2 ++ qtX4_goToNextPoint_3
def qtX4_goToNextPoint_1 : List Nat := qaX4_goToNextPoint_1 ++ qtX4_goToNextPoint_2
def qtX4_goToNextPoint_0 : List Nat := qaX4_goToNextPoint_0 ++ qtX4_goToNextPoint_1
theorem qeX4_goToNextPoint : cX4_goToNextPoint.data.toList.map UInt8.toNat = qtX4_goToNextPoint_0 := by decide +kernel
theorem qsX4_goToNextPoint_0 : ∀ i, dqNth qtX4_goToNextPoint_0 (0 + i) = dqNth qtX4_goToNextPoint_0 i := fun i => by rw [Nat.zero_add]
theorem qsX4_goToNextPoint_1 : ∀ i, dqNth qtX4_goToNextPoint_0 (16 + i) = dqNth qtX4_goToNextPoint_1 i := dq_step qsX4_goToNextPoint_0 rfl rfl
theorem qsX4_goToNextPoint_2 : ∀ i, dqNth qtX4_goToNextPoint_0 (32 + i) = dqNth qtX4_goToNextPoint_2 i := dq_step qsX4_goToNextPoint_1 rfl rfl
theorem qsX4_goToNextPoint_3 : ∀ i, dqNth qtX4_goToNextPoint_0 (48 + i) = dqNth qtX4_goToNextPoint_3 i := dq_step qsX4_goToNextPoint_2 rfl rfl
theorem qsX4_goToNextPoint_4 : ∀ i, dqNth qtX4_goToNextPoint_0 (64 + i) = dqNth qtX4_goToNextPoint_4 i := dq_step qsX4_goToNextPoint_3 rfl rfl
theorem qsX4_goToNextPoint_5 : ∀ i, dqNth qtX4_goToNextPoint_0 (80 + i) = dqNth qtX4_goToNextPoint_5 i := dq_step qsX4_goToNextPoint_4 rfl rfl
theorem qsX4_goToNextPoint_6 : ∀ i, dqNth qtX4_goToNextPoint_0 (96 + i) = dqNth qtX4_goToNextPoint_6 i := dq_step qsX4_goToNextPoint_5 rfl rfl
theorem qsX4_goToNextPoint_7 : ∀ i, dqNth qtX4_goToNextPoint_0 (112 + i) = dqNth qtX4_goToNextPoint_7 i := dq_step qsX4_goToNextPoint_6 rfl rfl
theorem qsX4_goToNextPoint_8 : ∀ i, dqNth qtX4_goToNextPoint_0 (128 + i) = dqNth qtX4_goToNextPoint_8 i := dq_step qsX4_goToNextPoint_7 rfl rfl
theorem qsX4_goToNextPoint_9 : ∀ i, dqNth qtX4_goToNextPoint_0 (144 + i) = dqNth qtX4_goToNextPoint_9 i := dq_step qsX4_goToNextPoint_8 rfl rfl
theorem qX4_goToNextPoint_0 (i b : Nat) (h : dqNth qaX4_goToNextPoint_0 i = some b) : DqBy cX4_goToNextPoint (0 + i) b := dqBy_of qeX4_goToNextPoint ((qsX4_goToNextPoint_0 i).trans (dq_in h))
theorem qX4_goToNextPoint_1 (i b : Nat) (h : dqNth qaX4_goToNextPoint_1 i = some b) : DqBy cX4_goToNextPoint (16 + i) b := dqBy_of qeX4_goToNextPoint ((qsX4_goToNextPoint_1 i).trans (dq_in h))
theorem qX4_goToNextPoint_2 (i b : Nat) (h : dqNth qaX4_goToNextPoint_2 i = some b) : DqBy cX4_goToNextPoint (32 + i) b := dqBy_of qeX4_goToNextPoint ((qsX4_goToNextPoint_2 i).trans (dq_in h))
theorem qX4_goToNextPoint_3 (i b : Nat) (h : dqNth qaX4_goToNextPoint_3 i = some b) : DqBy cX4_goToNextPoint (48 + i) b := dqBy_of qeX4_goToNextPoint ((qsX4_goToNextPoint_3 i).trans (dq_in h))
theorem qX4_goToNextPoint_4 (i b : Nat) (h : dqNth qaX4_goToNextPoint_4 i = some b) : DqBy cX4_goToNextPoint (64 + i) b := dqBy_of qeX4_goToNextPoint ((qsX4_goToNextPoint_4 i).trans (dq_in h))
theorem qX4_goToNextPoint_5 (i b : Nat) (h : dqNth qaX4_goToNextPoint_5 i = some b) : DqBy cX4_goToNextPoint (80 + i) b := dqBy_of qeX4_goToNextPoint ((qsX4_goToNextPoint_5 i).trans (dq_in h))
theorem qX4_goToNextPoint_6 (i b : Nat) (h : dqNth qaX4_goToNextPoint_6 i = some b) : DqBy cX4_goToNextPoint (96 + i) b := dqBy_of qeX4_goToNextPoint ((qsX4_goToNextPoint_6 i).trans (dq_in h))
theorem qX4_goToNextPoint_7 (i b : Nat) (h : dqNth qaX4_goToNextPoint_7 i = some b) : DqBy cX4_goToNextPoint (112 + i) b := dqBy_of qeX4_goToNextPoint ((qsX4_goToNextPoint_7 i).trans (dq_in h))
theorem qX4_goToNextPoint_8 (i b : Nat) (h : dqNth qaX4_goToNextPoint_8 i = some b) : DqBy cX4_goToNextPoint (128 + i) b := dqBy_of qeX4_goToNextPoint ((qsX4_goToNextPoint_8 i).trans (dq_in h))
theorem qX4_goToNextPoint_9 (i b : Nat) (h : dqNth qaX4_goToNextPoint_9 i = some b) : DqBy cX4_goToNextPoint (144 + i) b := dqBy_of qeX4_goToNextPoint ((qsX4_goToNextPoint_9 i).trans (dq_in h))
theorem dX4_goToNextPoint_0 : decode cX4_goToNextPoint 0 = .ok (.iconst 2, 1) := @dq_o5 cX4_goToNextPoint 0 (qX4_goToNextPoint_0 0 5 rfl)
theorem dX4_goToNextPoint_1 : decode cX4_goToNextPoint 1 = .ok (.aload_n 0, 1) := @dq_o42 cX4_goToNextPoint 1 (qX4_goToNextPoint_0 1 42 rfl)
theorem dX4_goToNextPoint_2 : decode cX4_goToNextPoint 2 = .ok (.getfield 12, 3) := @dq_o180 cX4_goToNextPoint 2 0 12 (qX4_goToNextPoint_0 2 180 rfl) (qX4_goToNextPoint_0 3 0 rfl) (qX4_goToNextPoint_0 4 12 rfl)
theorem dX4_goToNextPoint_5 : decode cX4_goToNextPoint 5 = .ok (.getfield 71, 3) := @dq_o180 cX4_goToNextPoint 5 0 71 (qX4_goToNextPoint_0 5 180 rfl) (qX4_goToNextPoint_0 6 0 rfl) (qX4_goToNextPoint_0 7 71 rfl)
theorem dX4_goToNextPoint_8 : decode cX4_goToNextPoint 8 = .ok (.imul, 1) := @dq_o104 cX4_goToNextPoint 8 (qX4_goToNextPoint_0 8 104 rfl)
theorem dX4_goToNextPoint_9 : decode cX4_goToNextPoint 9 = .ok (.iconst 1, 1) := @dq_o4 cX4_goToNextPoint 9 (qX4_goToNextPoint_0 9 4 rfl)
theorem dX4_goToNextPoint_10 : decode cX4_goToNextPoint 10 = .ok (.isub, 1) := @dq_o100 cX4_goToNextPoint 10 (qX4_goToNextPoint_0 10 100 rfl)
theorem dX4_goToNextPoint_11 : decode cX4_goToNextPoint 11 = .ok (.istore_n 1, 1) := @dq_o60 cX4_goToNextPoint 11 (qX4_goToNextPoint_0 11 60 rfl)
theorem dX4_goToNextPoint_12 : decode cX4_goToNextPoint 12 = .ok (.iload_n 1, 1) := @dq_o27 cX4_goToNextPoint 12 (qX4_goToNextPoint_0 12 27 rfl)
theorem dX4_goToNextPoint_13 : decode cX4_goToNextPoint 13 = .ok (.ifCond .lt 140, 3) := @dq_o155 cX4_goToNextPoint 13 0 140 (qX4_goToNextPoint_0 13 155 rfl) (qX4_goToNextPoint_0 14 0 rfl) (qX4_goToNextPoint_0 15 140 rfl)
theorem dX4_goToNextPoint_16 : decode cX4_goToNextPoint 16 = .ok (.iload_n 1, 1) := @dq_o27 cX4_goToNextPoint 16 (qX4_goToNextPoint_1 0 27 rfl)
theorem dX4_goToNextPoint_17 : decode cX4_goToNextPoint 17 = .ok (.aload_n 0, 1) := @dq_o42 cX4_goToNextPoint 17 (qX4_goToNextPoint_1 1 42 rfl)
theorem dX4_goToNextPoint_18 : decode cX4_goToNextPoint 18 = .ok (.getfield 12, 3) := @dq_o180 cX4_goToNextPoint 18 0 12 (qX4_goToNextPoint_1 2 180 rfl) (qX4_goToNextPoint_1 3 0 rfl) (qX4_goToNextPoint_1 4 12 rfl)
theorem dX4_goToNextPoint_21 : decode cX4_goToNextPoint 21 = .ok (.getfield 71, 3) := @dq_o180 cX4_goToNextPoint 21 0 71 (qX4_goToNextPoint_1 5 180 rfl) (qX4_goToNextPoint_1 6 0 rfl) (qX4_goToNextPoint_1 7 71 rfl)
theorem dX4_goToNextPoint_24 : decode cX4_goToNextPoint 24 = .ok (.if_icmp .ge 7, 3) := @dq_o162 cX4_goToNextPoint 24 0 7 (qX4_goToNextPoint_1 8 162 rfl) (qX4_goToNextPoint_1 9 0 rfl) (qX4_goToNextPoint_1 10 7 rfl)
theorem dX4_goToNextPoint_27 : decode cX4_goToNextPoint 27 = .ok (.iload_n 1, 1) := @dq_o27 cX4_goToNextPoint 27 (qX4_goToNextPoint_1 11 27 rfl)
theorem dX4_goToNextPoint_28 : decode cX4_goToNextPoint 28 = .ok (.goto 12, 3) := @dq_o167 cX4_goToNextPoint 28 0 12 (qX4_goToNextPoint_1 12 167 rfl) (qX4_goToNextPoint_1 13 0 rfl) (qX4_goToNextPoint_1 14 12 rfl)
theorem dX4_goToNextPoint_31 : decode cX4_goToNextPoint 31 = .ok (.iload_n 1, 1) := @dq_o27 cX4_goToNextPoint 31 (qX4_goToNextPoint_1 15 27 rfl)
theorem dX4_goToNextPoint_32 : decode cX4_goToNextPoint 32 = .ok (.aload_n 0, 1) := @dq_o42 cX4_goToNextPoint 32 (qX4_goToNextPoint_2 0 42 rfl)
theorem dX4_goToNextPoint_33 : decode cX4_goToNextPoint 33 = .ok (.getfield 12, 3) := @dq_o180 cX4_goToNextPoint 33 0 12 (qX4_goToNextPoint_2 1 180 rfl) (qX4_goToNextPoint_2 2 0 rfl) (qX4_goToNextPoint_2 3 12 rfl)
theorem dX4_goToNextPoint_36 : decode cX4_goToNextPoint 36 = .ok (.getfield 71, 3) := @dq_o180 cX4_goToNextPoint 36 0 71 (qX4_goToNextPoint_2 4 180 rfl) (qX4_goToNextPoint_2 5 0 rfl) (qX4_goToNextPoint_2 6 71 rfl)
theorem dX4_goToNextPoint_39 : decode cX4_goToNextPoint 39 = .ok (.isub, 1) := @dq_o100 cX4_goToNextPoint 39 (qX4_goToNextPoint_2 7 100 rfl)
theorem dX4_goToNextPoint_40 : decode cX4_goToNextPoint 40 = .ok (.istore_n 2, 1) := @dq_o61 cX4_goToNextPoint 40 (qX4_goToNextPoint_2 8 61 rfl)
theorem dX4_goToNextPoint_41 : decode cX4_goToNextPoint 41 = .ok (.iload_n 1, 1) := @dq_o27 cX4_goToNextPoint 41 (qX4_goToNextPoint_2 9 27 rfl)
theorem dX4_goToNextPoint_42 : decode cX4_goToNextPoint 42 = .ok (.aload_n 0, 1) := @dq_o42 cX4_goToNextPoint 42 (qX4_goToNextPoint_2 10 42 rfl)
theorem dX4_goToNextPoint_43 : decode cX4_goToNextPoint 43 = .ok (.getfield 12, 3) := @dq_o180 cX4_goToNextPoint 43 0 12 (qX4_goToNextPoint_2 11 180 rfl) (qX4_goToNextPoint_2 12 0 rfl) (qX4_goToNextPoint_2 13 12 rfl)
theorem dX4_goToNextPoint_46 : decode cX4_goToNextPoint 46 = .ok (.getfield 71, 3) := @dq_o180 cX4_goToNextPoint 46 0 71 (qX4_goToNextPoint_2 14 180 rfl) (qX4_goToNextPoint_2 15 0 rfl) (qX4_goToNextPoint_3 0 71 rfl)
theorem dX4_goToNextPoint_49 : decode cX4_goToNextPoint 49 = .ok (.if_icmp .ge 7, 3) := @dq_o162 cX4_goToNextPoint 49 0 7 (qX4_goToNextPoint_3 1 162 rfl) (qX4_goToNextPoint_3 2 0 rfl) (qX4_goToNextPoint_3 3 7 rfl)
theorem dX4_goToNextPoint_52 : decode cX4_goToNextPoint 52 = .ok (.iload_n 2, 1) := @dq_o28 cX4_goToNextPoint 52 (qX4_goToNextPoint_3 4 28 rfl)
theorem dX4_goToNextPoint_53 : decode cX4_goToNextPoint 53 = .ok (.goto 7, 3) := @dq_o167 cX4_goToNextPoint 53 0 7 (qX4_goToNextPoint_3 5 167 rfl) (qX4_goToNextPoint_3 6 0 rfl) (qX4_goToNextPoint_3 7 7 rfl)
theorem dX4_goToNextPoint_56 : decode cX4_goToNextPoint 56 = .ok (.bipush 6, 2) := @dq_o16 cX4_goToNextPoint 56 6 (qX4_goToNextPoint_3 8 16 rfl) (qX4_goToNextPoint_3 9 6 rfl)
theorem dX4_goToNextPoint_58 : decode cX4_goToNextPoint 58 = .ok (.iload_n 2, 1) := @dq_o28 cX4_goToNextPoint 58 (qX4_goToNextPoint_3 10 28 rfl)
theorem dX4_goToNextPoint_59 : decode cX4_goToNextPoint 59 = .ok (.iadd, 1) := @dq_o96 cX4_goToNextPoint 59 (qX4_goToNextPoint_3 11 96 rfl)
theorem dX4_goToNextPoint_60 : decode cX4_goToNextPoint 60 = .ok (.istore_n 3, 1) := @dq_o62 cX4_goToNextPoint 60 (qX4_goToNextPoint_3 12 62 rfl)
theorem dX4_goToNextPoint_61 : decode cX4_goToNextPoint 61 = .ok (.aload_n 0, 1) := @dq_o42 cX4_goToNextPoint 61 (qX4_goToNextPoint_3 13 42 rfl)
theorem dX4_goToNextPoint_62 : decode cX4_goToNextPoint 62 = .ok (.getfield 36, 3) := @dq_o180 cX4_goToNextPoint 62 0 36 (qX4_goToNextPoint_3 14 180 rfl) (qX4_goToNextPoint_3 15 0 rfl) (qX4_goToNextPoint_4 0 36 rfl)
theorem dX4_goToNextPoint_65 : decode cX4_goToNextPoint 65 = .ok (.aload_n 0, 1) := @dq_o42 cX4_goToNextPoint 65 (qX4_goToNextPoint_4 1 42 rfl)
theorem dX4_goToNextPoint_66 : decode cX4_goToNextPoint 66 = .ok (.getfield 12, 3) := @dq_o180 cX4_goToNextPoint 66 0 12 (qX4_goToNextPoint_4 2 180 rfl) (qX4_goToNextPoint_4 3 0 rfl) (qX4_goToNextPoint_4 4 12 rfl)
theorem dX4_goToNextPoint_69 : decode cX4_goToNextPoint 69 = .ok (.getfield 112, 3) := @dq_o180 cX4_goToNextPoint 69 0 112 (qX4_goToNextPoint_4 5 180 rfl) (qX4_goToNextPoint_4 6 0 rfl) (qX4_goToNextPoint_4 7 112 rfl)
theorem dX4_goToNextPoint_72 : decode cX4_goToNextPoint 72 = .ok (.iload_n 2, 1) := @dq_o28 cX4_goToNextPoint 72 (qX4_goToNextPoint_4 8 28 rfl)
theorem dX4_goToNextPoint_73 : decode cX4_goToNextPoint 73 = .ok (.iaload, 1) := @dq_o46 cX4_goToNextPoint 73 (qX4_goToNextPoint_4 9 46 rfl)
theorem dX4_goToNextPoint_74 : decode cX4_goToNextPoint 74 = .ok (.iadd, 1) := @dq_o96 cX4_goToNextPoint 74 (qX4_goToNextPoint_4 10 96 rfl)
theorem dX4_goToNextPoint_75 : decode cX4_goToNextPoint 75 = .ok (.aload_n 0, 1) := @dq_o42 cX4_goToNextPoint 75 (qX4_goToNextPoint_4 11 42 rfl)
theorem dX4_goToNextPoint_76 : decode cX4_goToNextPoint 76 = .ok (.getfield 12, 3) := @dq_o180 cX4_goToNextPoint 76 0 12 (qX4_goToNextPoint_4 12 180 rfl) (qX4_goToNextPoint_4 13 0 rfl) (qX4_goToNextPoint_4 14 12 rfl)
theorem dX4_goToNextPoint_79 : decode cX4_goToNextPoint 79 = .ok (.invokevirtual 115, 3) := @dq_o182 cX4_goToNextPoint 79 0 115 (qX4_goToNextPoint_4 15 182 rfl) (qX4_goToNextPoint_5 0 0 rfl) (qX4_goToNextPoint_5 1 115 rfl)
theorem dX4_goToNextPoint_82 : decode cX4_goToNextPoint 82 = .ok (.if_icmp .gt 33, 3) := @dq_o163 cX4_goToNextPoint 82 0 33 (qX4_goToNextPoint_5 2 163 rfl) (qX4_goToNextPoint_5 3 0 rfl) (qX4_goToNextPoint_5 4 33 rfl)
theorem dX4_goToNextPoint_85 : decode cX4_goToNextPoint 85 = .ok (.aload_n 0, 1) := @dq_o42 cX4_goToNextPoint 85 (qX4_goToNextPoint_5 5 42 rfl)
theorem dX4_goToNextPoint_86 : decode cX4_goToNextPoint 86 = .ok (.getfield 32, 3) := @dq_o180 cX4_goToNextPoint 86 0 32 (qX4_goToNextPoint_5 6 180 rfl) (qX4_goToNextPoint_5 7 0 rfl) (qX4_goToNextPoint_5 8 32 rfl)
theorem dX4_goToNextPoint_89 : decode cX4_goToNextPoint 89 = .ok (.iload_n 3, 1) := @dq_o29 cX4_goToNextPoint 89 (qX4_goToNextPoint_5 9 29 rfl)
theorem dX4_goToNextPoint_90 : decode cX4_goToNextPoint 90 = .ok (.dup2, 1) := @dq_o92 cX4_goToNextPoint 90 (qX4_goToNextPoint_5 10 92 rfl)
theorem dX4_goToNextPoint_91 : decode cX4_goToNextPoint 91 = .ok (.iaload, 1) := @dq_o46 cX4_goToNextPoint 91 (qX4_goToNextPoint_5 11 46 rfl)
theorem dX4_goToNextPoint_92 : decode cX4_goToNextPoint 92 = .ok (.iconst 1, 1) := @dq_o4 cX4_goToNextPoint 92 (qX4_goToNextPoint_5 12 4 rfl)
theorem dX4_goToNextPoint_93 : decode cX4_goToNextPoint 93 = .ok (.iadd, 1) := @dq_o96 cX4_goToNextPoint 93 (qX4_goToNextPoint_5 13 96 rfl)
theorem dX4_goToNextPoint_94 : decode cX4_goToNextPoint 94 = .ok (.iastore, 1) := @dq_o79 cX4_goToNextPoint 94 (qX4_goToNextPoint_5 14 79 rfl)
theorem dX4_goToNextPoint_95 : decode cX4_goToNextPoint 95 = .ok (.aload_n 0, 1) := @dq_o42 cX4_goToNextPoint 95 (qX4_goToNextPoint_5 15 42 rfl)
theorem dX4_goToNextPoint_96 : decode cX4_goToNextPoint 96 = .ok (.dup, 1) := @dq_o89 cX4_goToNextPoint 96 (qX4_goToNextPoint_6 0 89 rfl)
theorem dX4_goToNextPoint_97 : decode cX4_goToNextPoint 97 = .ok (.getfield 36, 3) := @dq_o180 cX4_goToNextPoint 97 0 36 (qX4_goToNextPoint_6 1 180 rfl) (qX4_goToNextPoint_6 2 0 rfl) (qX4_goToNextPoint_6 3 36 rfl)
theorem dX4_goToNextPoint_100 : decode cX4_goToNextPoint 100 = .ok (.aload_n 0, 1) := @dq_o42 cX4_goToNextPoint 100 (qX4_goToNextPoint_6 4 42 rfl)
theorem dX4_goToNextPoint_101 : decode cX4_goToNextPoint 101 = .ok (.getfield 12, 3) := @dq_o180 cX4_goToNextPoint 101 0 12 (qX4_goToNextPoint_6 5 180 rfl) (qX4_goToNextPoint_6 6 0 rfl) (qX4_goToNextPoint_6 7 12 rfl)
theorem dX4_goToNextPoint_104 : decode cX4_goToNextPoint 104 = .ok (.getfield 112, 3) := @dq_o180 cX4_goToNextPoint 104 0 112 (qX4_goToNextPoint_6 8 180 rfl) (qX4_goToNextPoint_6 9 0 rfl) (qX4_goToNextPoint_6 10 112 rfl)
theorem dX4_goToNextPoint_107 : decode cX4_goToNextPoint 107 = .ok (.iload_n 2, 1) := @dq_o28 cX4_goToNextPoint 107 (qX4_goToNextPoint_6 11 28 rfl)
theorem dX4_goToNextPoint_108 : decode cX4_goToNextPoint 108 = .ok (.iaload, 1) := @dq_o46 cX4_goToNextPoint 108 (qX4_goToNextPoint_6 12 46 rfl)
theorem dX4_goToNextPoint_109 : decode cX4_goToNextPoint 109 = .ok (.iadd, 1) := @dq_o96 cX4_goToNextPoint 109 (qX4_goToNextPoint_6 13 96 rfl)
theorem dX4_goToNextPoint_110 : decode cX4_goToNextPoint 110 = .ok (.putfield 36, 3) := @dq_o181 cX4_goToNextPoint 110 0 36 (qX4_goToNextPoint_6 14 181 rfl) (qX4_goToNextPoint_6 15 0 rfl) (qX4_goToNextPoint_7 0 36 rfl)
theorem dX4_goToNextPoint_113 : decode cX4_goToNextPoint 113 = .ok (.iconst 1, 1) := @dq_o4 cX4_goToNextPoint 113 (qX4_goToNextPoint_7 1 4 rfl)
theorem dX4_goToNextPoint_114 : decode cX4_goToNextPoint 114 = .ok (.ireturn, 1) := @dq_o172 cX4_goToNextPoint 114 (qX4_goToNextPoint_7 2 172 rfl)
theorem dX4_goToNextPoint_115 : decode cX4_goToNextPoint 115 = .ok (.aload_n 0, 1) := @dq_o42 cX4_goToNextPoint 115 (qX4_goToNextPoint_7 3 42 rfl)
theorem dX4_goToNextPoint_116 : decode cX4_goToNextPoint 116 = .ok (.dup, 1) := @dq_o89 cX4_goToNextPoint 116 (qX4_goToNextPoint_7 4 89 rfl)
theorem dX4_goToNextPoint_117 : decode cX4_goToNextPoint 117 = .ok (.getfield 36, 3) := @dq_o180 cX4_goToNextPoint 117 0 36 (qX4_goToNextPoint_7 5 180 rfl) (qX4_goToNextPoint_7 6 0 rfl) (qX4_goToNextPoint_7 7 36 rfl)
theorem dX4_goToNextPoint_120 : decode cX4_goToNextPoint 120 = .ok (.aload_n 0, 1) := @dq_o42 cX4_goToNextPoint 120 (qX4_goToNextPoint_7 8 42 rfl)
theorem dX4_goToNextPoint_121 : decode cX4_goToNextPoint 121 = .ok (.getfield 32, 3) := @dq_o180 cX4_goToNextPoint 121 0 32 (qX4_goToNextPoint_7 9 180 rfl) (qX4_goToNextPoint_7 10 0 rfl) (qX4_goToNextPoint_7 11 32 rfl)
theorem dX4_goToNextPoint_124 : decode cX4_goToNextPoint 124 = .ok (.iload_n 3, 1) := @dq_o29 cX4_goToNextPoint 124 (qX4_goToNextPoint_7 12 29 rfl)
theorem dX4_goToNextPoint_125 : decode cX4_goToNextPoint 125 = .ok (.iaload, 1) := @dq_o46 cX4_goToNextPoint 125 (qX4_goToNextPoint_7 13 46 rfl)
theorem dX4_goToNextPoint_126 : decode cX4_goToNextPoint 126 = .ok (.aload_n 0, 1) := @dq_o42 cX4_goToNextPoint 126 (qX4_goToNextPoint_7 14 42 rfl)
theorem dX4_goToNextPoint_127 : decode cX4_goToNextPoint 127 = .ok (.getfield 12, 3) := @dq_o180 cX4_goToNextPoint 127 0 12 (qX4_goToNextPoint_7 15 180 rfl) (qX4_goToNextPoint_8 0 0 rfl) (qX4_goToNextPoint_8 1 12 rfl)
theorem dX4_goToNextPoint_130 : decode cX4_goToNextPoint 130 = .ok (.getfield 112, 3) := @dq_o180 cX4_goToNextPoint 130 0 112 (qX4_goToNextPoint_8 2 180 rfl) (qX4_goToNextPoint_8 3 0 rfl) (qX4_goToNextPoint_8 4 112 rfl)
theorem dX4_goToNextPoint_133 : decode cX4_goToNextPoint 133 = .ok (.iload_n 2, 1) := @dq_o28 cX4_goToNextPoint 133 (qX4_goToNextPoint_8 5 28 rfl)
theorem dX4_goToNextPoint_134 : decode cX4_goToNextPoint 134 = .ok (.iaload, 1) := @dq_o46 cX4_goToNextPoint 134 (qX4_goToNextPoint_8 6 46 rfl)
theorem dX4_goToNextPoint_135 : decode cX4_goToNextPoint 135 = .ok (.imul, 1) := @dq_o104 cX4_goToNextPoint 135 (qX4_goToNextPoint_8 7 104 rfl)
theorem dX4_goToNextPoint_136 : decode cX4_goToNextPoint 136 = .ok (.isub, 1) := @dq_o100 cX4_goToNextPoint 136 (qX4_goToNextPoint_8 8 100 rfl)
theorem dX4_goToNextPoint_137 : decode cX4_goToNextPoint 137 = .ok (.putfield 36, 3) := @dq_o181 cX4_goToNextPoint 137 0 36 (qX4_goToNextPoint_8 9 181 rfl) (qX4_goToNextPoint_8 10 0 rfl) (qX4_goToNextPoint_8 11 36 rfl)
theorem dX4_goToNextPoint_140 : decode cX4_goToNextPoint 140 = .ok (.aload_n 0, 1) := @dq_o42 cX4_goToNextPoint 140 (qX4_goToNextPoint_8 12 42 rfl)
theorem dX4_goToNextPoint_141 : decode cX4_goToNextPoint 141 = .ok (.getfield 32, 3) := @dq_o180 cX4_goToNextPoint 141 0 32 (qX4_goToNextPoint_8 13 180 rfl) (qX4_goToNextPoint_8 14 0 rfl) (qX4_goToNextPoint_8 15 32 rfl)
theorem dX4_goToNextPoint_144 : decode cX4_goToNextPoint 144 = .ok (.iload_n 3, 1) := @dq_o29 cX4_goToNextPoint 144 (qX4_goToNextPoint_9 0 29 rfl)
theorem dX4_goToNextPoint_145 : decode cX4_goToNextPoint 145 = .ok (.iconst 0, 1) := @dq_o3 cX4_goToNextPoint 145 (qX4_goToNextPoint_9 1 3 rfl)
theorem dX4_goToNextPoint_146 : decode cX4_goToNextPoint 146 = .ok (.iastore, 1) := @dq_o79 cX4_goToNextPoint 146 (qX4_goToNextPoint_9 2 79 rfl)
theorem dX4_goToNextPoint_147 : decode cX4_goToNextPoint 147 = .ok (.iinc 1 (-1), 3) := @dq_o132 cX4_goToNextPoint 147 1 255 (qX4_goToNextPoint_9 3 132 rfl) (qX4_goToNextPoint_9 4 1 rfl) (qX4_goToNextPoint_9 5 255 rfl)
theorem dX4_goToNextPoint_150 : decode cX4_goToNextPoint 150 = .ok (.goto (-138), 3) := @dq_o167 cX4_goToNextPoint 150 255 118 (qX4_goToNextPoint_9 6 167 rfl) (qX4_goToNextPoint_9 7 255 rfl) (qX4_goToNextPoint_9 8 118 rfl)
theorem dX4_goToNextPoint_153 : decode cX4_goToNextPoint 153 = .ok (.iconst 0, 1) := @dq_o3 cX4_goToNextPoint 153 (qX4_goToNextPoint_9 9 3 rfl)
theorem dX4_goToNextPoint_154 : decode cX4_goToNextPoint 154 = .ok (.ireturn, 1) := @dq_o172 cX4_goToNextPoint 154 (qX4_goToNextPoint_9 10 172 rfl)
abbrev qaX4_findTermsAtPoint_0 : List Nat := [42, 180, 0, 46, 182, 0, 76, 3, 60, 3, 61, 28, 16, 12, 162, 0]
abbrev qaX4_findTermsAtPoint_1 : List Nat := [66, 42, 180, 0, 39, 28, 42, 180, 0, 32, 28, 46, 133, 184, 0, 119]
abbrev qaX4_findTermsAtPoint_2 : List Nat := [27, 5, 120, 42, 180, 0, 32, 28, 46, 6, 126, 128, 60, 3, 62, 29]
abbrev qaX4_findTermsAtPoint_3 : List Nat := [42, 180, 0, 32, 28, 46, 162, 0, 20, 42, 180, 0, 46, 28, 16, 6]
abbrev qaX4_findTermsAtPoint_4 : List Nat := [112, 182, 0, 81, 132, 3, 1, 167, 255, 232, 132, 2, 1, 167, 255, 190]
abbrev qaX4_findTermsAtPoint_5 : List Nat := [42, 180, 0, 46, 42, 180, 0, 12, 17, 3, 232, 182, 0, 89, 87, 3]
abbrev qaX4_findTermsAtPoint_6 : List Nat := [61, 28, 42, 180, 0, 12, 180, 0, 71, 162, 0, 70, 42, 180, 0, 12]
abbrev qaX4_findTermsAtPoint_7 : List Nat := [180, 0, 112, 28, 46, 42, 180, 0, 36, 162, 0, 6, 167, 0, 45, 42]
abbrev qaX4_findTermsAtPoint_8 : List Nat := [180, 0, 46, 180, 0, 93, 28, 46, 133, 42, 180, 0, 20, 28, 50, 42]
abbrev qaX4_findTermsAtPoint_9 : List Nat := [180, 0, 39, 182, 0, 123, 101, 66, 33, 9, 148, 153, 0, 14, 42, 180]
abbrev qaX4_findTermsAtPoint_10 : List Nat := [0, 20, 28, 50, 27, 33, 182, 0, 127, 132, 2, 1, 167, 255, 181, 177]
def qtX4_findTermsAtPoint_11 : List Nat := []
def qtX4_findTermsAtPoint_10 : List Nat := qaX4_findTermsAtPoint_10 ++ qtX4_findTermsAtPoint_11
def qtX4_findTermsAtPoint_9 : List Nat := qaX4_findTermsAtPoint_9 ++ qtX4_findTermsAtPoint_10
def qtX4_findTermsAtPoint_8 : List Nat := qaX4_findTermsAtPoint_8 ++ qtX4_findTermsAtPoint_9
def qtX4_findTermsAtPoint_7 : List Nat := qaX4_findTermsAtPoint_7 ++ qtX4_findTermsAtPoint_8
def qtX4_findTermsAtPoint_6 : List Nat := qaX4_findTermsAtPoint_6 ++ qtX4_findTermsAtPoint_7
def qtX4_findTermsAtPoint_5 : List Nat := qaX4_findTermsAtPoint_5 ++ qtX4_findTermsAtPoint_6
def qtX4_findTermsAtPoint_4 : List Nat := qaX4_findTermsAtPoint_4 ++ qtX4_findTermsAtPoint_5
def qtX4_findTermsAtPoint_3 : List Nat := qaX4_findTermsAtPoint_3 ++ qtX4_findTermsAtPoint_4
def qtX4_findTermsAtPoint_2 : List Nat := qaX4_findTermsAtPoint_2 ++ qtX4_findTermsAtPoint_3
def qtX4_findTermsAtPoint_1 : List Nat := qaX4_findTermsAtPoint_1 ++ qtX4_findTermsAtPoint_2
def qtX4_findTermsAtPoint_0 : List Nat := qaX4_findTermsAtPoint_0 ++ qtX4_findTermsAtPoint_1
theorem qeX4_findTermsAtPoint : cX4_findTermsAtPoint.data.toList.map UInt8.toNat = qtX4_findTermsAtPoint_0 := by decide +kernel
theorem qsX4_findTermsAtPoint_0 : ∀ i, dqNth qtX4_findTermsAtPoint_0 (0 + i) = dqNth qtX4_findTermsAtPoint_0 i := fun i => by rw [Nat.zero_add]
theorem qsX4_findTermsAtPoint_1 : ∀ i, dqNth qtX4_findTermsAtPoint_0 (16 + i) = dqNth qtX4_findTermsAtPoint_1 i := dq_step qsX4_findTermsAtPoint_0 rfl rfl
theorem qsX4_findTermsAtPoint_2 : ∀ i, dqNth qtX4_findTermsAtPoint_0 (32 + i) = dqNth qtX4_findTermsAtPoint_2 i := dq_step qsX4_findTermsAtPoint_1 rfl rfl
theorem qsX4_findTermsAtPoint_3 : ∀ i, dqNth qtX4_findTermsAtPoint_0 (48 + i) = dqNth qtX4_findTermsAtPoint_3 i := dq_step qsX4_findTermsAtPoint_2 rfl rfl
theorem qsX4_findTermsAtPoint_4 : ∀ i, dqNth qtX4_findTermsAtPoint_0 (64 + i) = dqNth qtX4_findTermsAtPoint_4 i := dq_step qsX4_findTermsAtPoint_3 rfl rfl
theorem qsX4_findTermsAtPoint_5 : ∀ i, dqNth qtX4_findTermsAtPoint_0 (80 + i) = dqNth qtX4_findTermsAtPoint_5 i := dq_step qsX4_findTermsAtPoint_4 rfl rfl
theorem qsX4_findTermsAtPoint_6 : ∀ i, dqNth qtX4_findTermsAtPoint_0 (96 + i) = dqNth qtX4_findTermsAtPoint_6 i := dq_step qsX4_findTermsAtPoint_5 rfl rfl
theorem qsX4_findTermsAtPoint_7 : ∀ i, dqNth qtX4_findTermsAtPoint_0 (112 + i) = dqNth qtX4_findTermsAtPoint_7 i := dq_step qsX4_findTermsAtPoint_6 rfl rfl
theorem qsX4_findTermsAtPoint_8 : ∀ i, dqNth qtX4_findTermsAtPoint_0 (128 + i) = dqNth qtX4_findTermsAtPoint_8 i := dq_step qsX4_findTermsAtPoint_7 rfl rfl
theorem qsX4_findTermsAtPoint_9 : ∀ i, dqNth qtX4_findTermsAtPoint_0 (144 + i) = dqNth qtX4_findTermsAtPoint_9 i := dq_step qsX4_findTermsAtPoint_8 rfl rfl
theorem qsX4_findTermsAtPoint_10 : ∀ i, dqNth qtX4_findTermsAtPoint_0 (160 + i) = dqNth qtX4_findTermsAtPoint_10 i := dq_step qsX4_findTermsAtPoint_9 rfl rfl
theorem qX4_findTermsAtPoint_0 (i b : Nat) (h : dqNth qaX4_findTermsAtPoint_0 i = some b) : DqBy cX4_findTermsAtPoint (0 + i) b := dqBy_of qeX4_findTermsAtPoint ((qsX4_findTermsAtPoint_0 i).trans (dq_in h))
theorem qX4_findTermsAtPoint_1 (i b : Nat) (h : dqNth qaX4_findTermsAtPoint_1 i = some b) : DqBy cX4_findTermsAtPoint (16 + i) b := dqBy_of qeX4_findTermsAtPoint ((qsX4_findTermsAtPoint_1 i).trans (dq_in h))
theorem qX4_findTermsAtPoint_2 (i b : Nat) (h : dqNth qaX4_findTermsAtPoint_2 i = some b) : DqBy cX4_findTermsAtPoint (32 + i) b := dqBy_of qeX4_findTermsAtPoint ((qsX4_findTermsAtPoint_2 i).trans (dq_in h))
theorem qX4_findTermsAtPoint_3 (i b : Nat) (h : dqNth qaX4_findTermsAtPoint_3 i = some b) : DqBy cX4_findTermsAtPoint (48 + i) b := dqBy_of qeX4_findTermsAtPoint ((qsX4_findTermsAtPoint_3 i).trans (dq_in h))
theorem qX4_findTermsAtPoint_4 (i b : Nat) (h : dqNth qaX4_findTermsAtPoint_4 i = some b) : DqBy cX4_findTermsAtPoint (64 + i) b := dqBy_of qeX4_findTermsAtPoint ((qsX4_findTermsAtPoint_4 i).trans (dq_in h))
theorem qX4_findTermsAtPoint_5 (i b : Nat) (h : dqNth qaX4_findTermsAtPoint_5 i = some b) : DqBy cX4_findTermsAtPoint (80 + i) b := dqBy_of qeX4_findTermsAtPoint ((qsX4_findTermsAtPoint_5 i).trans (dq_in h))
theorem qX4_findTermsAtPoint_6 (i b : Nat) (h : dqNth qaX4_findTermsAtPoint_6 i = some b) : DqBy cX4_findTermsAtPoint (96 + i) b := dqBy_of qeX4_findTermsAtPoint ((qsX4_findTermsAtPoint_6 i).trans (dq_in h))
theorem qX4_findTermsAtPoint_7 (i b : Nat) (h : dqNth qaX4_findTermsAtPoint_7 i = some b) : DqBy cX4_findTermsAtPoint (112 + i) b := dqBy_of qeX4_findTermsAtPoint ((qsX4_findTermsAtPoint_7 i).trans (dq_in h))
theorem qX4_findTermsAtPoint_8 (i b : Nat) (h : dqNth qaX4_findTermsAtPoint_8 i = some b) : DqBy cX4_findTermsAtPoint (128 + i) b := dqBy_of qeX4_findTermsAtPoint ((qsX4_findTermsAtPoint_8 i).trans (dq_in h))
theorem qX4_findTermsAtPoint_9 (i b : Nat) (h : dqNth qaX4_findTermsAtPoint_9 i = some b) : DqBy cX4_findTermsAtPoint (144 + i) b := dqBy_of qeX4_findTermsAtPoint ((qsX4_findTermsAtPoint_9 i).trans (dq_in h))
theorem qX4_findTermsAtPoint_10 (i b : Nat) (h : dqNth qaX4_findTermsAtPoint_10 i = some b) : DqBy cX4_findTermsAtPoint (160 + i) b := dqBy_of qeX4_findTermsAtPoint ((qsX4_findTermsAtPoint_10 i).trans (dq_in h))
theorem dX4_findTermsAtPoint_0 : decode cX4_findTermsAtPoint 0 = .ok (.aload_n 0, 1) := @dq_o42 cX4_findTermsAtPoint 0 (qX4_findTermsAtPoint_0 0 42 rfl)
theorem dX4_findTermsAtPoint_1 : decode cX4_findTermsAtPoint 1 = .ok (.getfield 46, 3) := @dq_o180 cX4_findTermsAtPoint 1 0 46 (qX4_findTermsAtPoint_0 1 180 rfl) (qX4_findTermsAtPoint_0 2 0 rfl) (qX4_findTermsAtPoint_0 3 46 rfl)
theorem dX4_findTermsAtPoint_4 : decode cX4_findTermsAtPoint 4 = .ok (.invokevirtual 76, 3) := @dq_o182 cX4_findTermsAtPoint 4 0 76 (qX4_findTermsAtPoint_0 4 182 rfl) (qX4_findTermsAtPoint_0 5 0 rfl) (qX4_findTermsAtPoint_0 6 76 rfl)
theorem dX4_findTermsAtPoint_7 : decode cX4_findTermsAtPoint 7 = .ok (.iconst 0, 1) := @dq_o3 cX4_findTermsAtPoint 7 (qX4_findTermsAtPoint_0 7 3 rfl)
theorem dX4_findTermsAtPoint_8 : decode cX4_findTermsAtPoint 8 = .ok (.istore_n 1, 1) := @dq_o60 cX4_findTermsAtPoint 8 (qX4_findTermsAtPoint_0 8 60 rfl)
theorem dX4_findTermsAtPoint_9 : decode cX4_findTermsAtPoint 9 = .ok (.iconst 0, 1) := @dq_o3 cX4_findTermsAtPoint 9 (qX4_findTermsAtPoint_0 9 3 rfl)
theorem dX4_findTermsAtPoint_10 : decode cX4_findTermsAtPoint 10 = .ok (.istore_n 2, 1) := @dq_o61 cX4_findTermsAtPoint 10 (qX4_findTermsAtPoint_0 10 61 rfl)
theorem dX4_findTermsAtPoint_11 : decode cX4_findTermsAtPoint 11 = .ok (.iload_n 2, 1) := @dq_o28 cX4_findTermsAtPoint 11 (qX4_findTermsAtPoint_0 11 28 rfl)
theorem dX4_findTermsAtPoint_12 : decode cX4_findTermsAtPoint 12 = .ok (.bipush 12, 2) := @dq_o16 cX4_findTermsAtPoint 12 12 (qX4_findTermsAtPoint_0 12 16 rfl) (qX4_findTermsAtPoint_0 13 12 rfl)
theorem dX4_findTermsAtPoint_14 : decode cX4_findTermsAtPoint 14 = .ok (.if_icmp .ge 66, 3) := @dq_o162 cX4_findTermsAtPoint 14 0 66 (qX4_findTermsAtPoint_0 14 162 rfl) (qX4_findTermsAtPoint_0 15 0 rfl) (qX4_findTermsAtPoint_1 0 66 rfl)
theorem dX4_findTermsAtPoint_17 : decode cX4_findTermsAtPoint 17 = .ok (.aload_n 0, 1) := @dq_o42 cX4_findTermsAtPoint 17 (qX4_findTermsAtPoint_1 1 42 rfl)
theorem dX4_findTermsAtPoint_18 : decode cX4_findTermsAtPoint 18 = .ok (.getfield 39, 3) := @dq_o180 cX4_findTermsAtPoint 18 0 39 (qX4_findTermsAtPoint_1 2 180 rfl) (qX4_findTermsAtPoint_1 3 0 rfl) (qX4_findTermsAtPoint_1 4 39 rfl)
theorem dX4_findTermsAtPoint_21 : decode cX4_findTermsAtPoint 21 = .ok (.iload_n 2, 1) := @dq_o28 cX4_findTermsAtPoint 21 (qX4_findTermsAtPoint_1 5 28 rfl)
theorem dX4_findTermsAtPoint_22 : decode cX4_findTermsAtPoint 22 = .ok (.aload_n 0, 1) := @dq_o42 cX4_findTermsAtPoint 22 (qX4_findTermsAtPoint_1 6 42 rfl)
theorem dX4_findTermsAtPoint_23 : decode cX4_findTermsAtPoint 23 = .ok (.getfield 32, 3) := @dq_o180 cX4_findTermsAtPoint 23 0 32 (qX4_findTermsAtPoint_1 7 180 rfl) (qX4_findTermsAtPoint_1 8 0 rfl) (qX4_findTermsAtPoint_1 9 32 rfl)
theorem dX4_findTermsAtPoint_26 : decode cX4_findTermsAtPoint 26 = .ok (.iload_n 2, 1) := @dq_o28 cX4_findTermsAtPoint 26 (qX4_findTermsAtPoint_1 10 28 rfl)
theorem dX4_findTermsAtPoint_27 : decode cX4_findTermsAtPoint 27 = .ok (.iaload, 1) := @dq_o46 cX4_findTermsAtPoint 27 (qX4_findTermsAtPoint_1 11 46 rfl)
theorem dX4_findTermsAtPoint_28 : decode cX4_findTermsAtPoint 28 = .ok (.i2l, 1) := @dq_o133 cX4_findTermsAtPoint 28 (qX4_findTermsAtPoint_1 12 133 rfl)
theorem dX4_findTermsAtPoint_29 : decode cX4_findTermsAtPoint 29 = .ok (.invokestatic 119, 3) := @dq_o184 cX4_findTermsAtPoint 29 0 119 (qX4_findTermsAtPoint_1 13 184 rfl) (qX4_findTermsAtPoint_1 14 0 rfl) (qX4_findTermsAtPoint_1 15 119 rfl)
theorem dX4_findTermsAtPoint_32 : decode cX4_findTermsAtPoint 32 = .ok (.iload_n 1, 1) := @dq_o27 cX4_findTermsAtPoint 32 (qX4_findTermsAtPoint_2 0 27 rfl)
theorem dX4_findTermsAtPoint_33 : decode cX4_findTermsAtPoint 33 = .ok (.iconst 2, 1) := @dq_o5 cX4_findTermsAtPoint 33 (qX4_findTermsAtPoint_2 1 5 rfl)
theorem dX4_findTermsAtPoint_34 : decode cX4_findTermsAtPoint 34 = .ok (.ishl, 1) := @dq_o120 cX4_findTermsAtPoint 34 (qX4_findTermsAtPoint_2 2 120 rfl)
theorem dX4_findTermsAtPoint_35 : decode cX4_findTermsAtPoint 35 = .ok (.aload_n 0, 1) := @dq_o42 cX4_findTermsAtPoint 35 (qX4_findTermsAtPoint_2 3 42 rfl)
theorem dX4_findTermsAtPoint_36 : decode cX4_findTermsAtPoint 36 = .ok (.getfield 32, 3) := @dq_o180 cX4_findTermsAtPoint 36 0 32 (qX4_findTermsAtPoint_2 4 180 rfl) (qX4_findTermsAtPoint_2 5 0 rfl) (qX4_findTermsAtPoint_2 6 32 rfl)
theorem dX4_findTermsAtPoint_39 : decode cX4_findTermsAtPoint 39 = .ok (.iload_n 2, 1) := @dq_o28 cX4_findTermsAtPoint 39 (qX4_findTermsAtPoint_2 7 28 rfl)
theorem dX4_findTermsAtPoint_40 : decode cX4_findTermsAtPoint 40 = .ok (.iaload, 1) := @dq_o46 cX4_findTermsAtPoint 40 (qX4_findTermsAtPoint_2 8 46 rfl)
theorem dX4_findTermsAtPoint_41 : decode cX4_findTermsAtPoint 41 = .ok (.iconst 3, 1) := @dq_o6 cX4_findTermsAtPoint 41 (qX4_findTermsAtPoint_2 9 6 rfl)
theorem dX4_findTermsAtPoint_42 : decode cX4_findTermsAtPoint 42 = .ok (.iand, 1) := @dq_o126 cX4_findTermsAtPoint 42 (qX4_findTermsAtPoint_2 10 126 rfl)
theorem dX4_findTermsAtPoint_43 : decode cX4_findTermsAtPoint 43 = .ok (.ior, 1) := @dq_o128 cX4_findTermsAtPoint 43 (qX4_findTermsAtPoint_2 11 128 rfl)
theorem dX4_findTermsAtPoint_44 : decode cX4_findTermsAtPoint 44 = .ok (.istore_n 1, 1) := @dq_o60 cX4_findTermsAtPoint 44 (qX4_findTermsAtPoint_2 12 60 rfl)
theorem dX4_findTermsAtPoint_45 : decode cX4_findTermsAtPoint 45 = .ok (.iconst 0, 1) := @dq_o3 cX4_findTermsAtPoint 45 (qX4_findTermsAtPoint_2 13 3 rfl)
theorem dX4_findTermsAtPoint_46 : decode cX4_findTermsAtPoint 46 = .ok (.istore_n 3, 1) := @dq_o62 cX4_findTermsAtPoint 46 (qX4_findTermsAtPoint_2 14 62 rfl)
theorem dX4_findTermsAtPoint_47 : decode cX4_findTermsAtPoint 47 = .ok (.iload_n 3, 1) := @dq_o29 cX4_findTermsAtPoint 47 (qX4_findTermsAtPoint_2 15 29 rfl)
theorem dX4_findTermsAtPoint_48 : decode cX4_findTermsAtPoint 48 = .ok (.aload_n 0, 1) := @dq_o42 cX4_findTermsAtPoint 48 (qX4_findTermsAtPoint_3 0 42 rfl)
theorem dX4_findTermsAtPoint_49 : decode cX4_findTermsAtPoint 49 = .ok (.getfield 32, 3) := @dq_o180 cX4_findTermsAtPoint 49 0 32 (qX4_findTermsAtPoint_3 1 180 rfl) (qX4_findTermsAtPoint_3 2 0 rfl) (qX4_findTermsAtPoint_3 3 32 rfl)
theorem dX4_findTermsAtPoint_52 : decode cX4_findTermsAtPoint 52 = .ok (.iload_n 2, 1) := @dq_o28 cX4_findTermsAtPoint 52 (qX4_findTermsAtPoint_3 4 28 rfl)
theorem dX4_findTermsAtPoint_53 : decode cX4_findTermsAtPoint 53 = .ok (.iaload, 1) := @dq_o46 cX4_findTermsAtPoint 53 (qX4_findTermsAtPoint_3 5 46 rfl)
theorem dX4_findTermsAtPoint_54 : decode cX4_findTermsAtPoint 54 = .ok (.if_icmp .ge 20, 3) := @dq_o162 cX4_findTermsAtPoint 54 0 20 (qX4_findTermsAtPoint_3 6 162 rfl) (qX4_findTermsAtPoint_3 7 0 rfl) (qX4_findTermsAtPoint_3 8 20 rfl)
theorem dX4_findTermsAtPoint_57 : decode cX4_findTermsAtPoint 57 = .ok (.aload_n 0, 1) := @dq_o42 cX4_findTermsAtPoint 57 (qX4_findTermsAtPoint_3 9 42 rfl)
theorem dX4_findTermsAtPoint_58 : decode cX4_findTermsAtPoint 58 = .ok (.getfield 46, 3) := @dq_o180 cX4_findTermsAtPoint 58 0 46 (qX4_findTermsAtPoint_3 10 180 rfl) (qX4_findTermsAtPoint_3 11 0 rfl) (qX4_findTermsAtPoint_3 12 46 rfl)
theorem dX4_findTermsAtPoint_61 : decode cX4_findTermsAtPoint 61 = .ok (.iload_n 2, 1) := @dq_o28 cX4_findTermsAtPoint 61 (qX4_findTermsAtPoint_3 13 28 rfl)
theorem dX4_findTermsAtPoint_62 : decode cX4_findTermsAtPoint 62 = .ok (.bipush 6, 2) := @dq_o16 cX4_findTermsAtPoint 62 6 (qX4_findTermsAtPoint_3 14 16 rfl) (qX4_findTermsAtPoint_3 15 6 rfl)
theorem dX4_findTermsAtPoint_64 : decode cX4_findTermsAtPoint 64 = .ok (.irem, 1) := @dq_o112 cX4_findTermsAtPoint 64 (qX4_findTermsAtPoint_4 0 112 rfl)
theorem dX4_findTermsAtPoint_65 : decode cX4_findTermsAtPoint 65 = .ok (.invokevirtual 81, 3) := @dq_o182 cX4_findTermsAtPoint 65 0 81 (qX4_findTermsAtPoint_4 1 182 rfl) (qX4_findTermsAtPoint_4 2 0 rfl) (qX4_findTermsAtPoint_4 3 81 rfl)
theorem dX4_findTermsAtPoint_68 : decode cX4_findTermsAtPoint 68 = .ok (.iinc 3 1, 3) := @dq_o132 cX4_findTermsAtPoint 68 3 1 (qX4_findTermsAtPoint_4 4 132 rfl) (qX4_findTermsAtPoint_4 5 3 rfl) (qX4_findTermsAtPoint_4 6 1 rfl)
theorem dX4_findTermsAtPoint_71 : decode cX4_findTermsAtPoint 71 = .ok (.goto (-24), 3) := @dq_o167 cX4_findTermsAtPoint 71 255 232 (qX4_findTermsAtPoint_4 7 167 rfl) (qX4_findTermsAtPoint_4 8 255 rfl) (qX4_findTermsAtPoint_4 9 232 rfl)
theorem dX4_findTermsAtPoint_74 : decode cX4_findTermsAtPoint 74 = .ok (.iinc 2 1, 3) := @dq_o132 cX4_findTermsAtPoint 74 2 1 (qX4_findTermsAtPoint_4 10 132 rfl) (qX4_findTermsAtPoint_4 11 2 rfl) (qX4_findTermsAtPoint_4 12 1 rfl)
theorem dX4_findTermsAtPoint_77 : decode cX4_findTermsAtPoint 77 = .ok (.goto (-66), 3) := @dq_o167 cX4_findTermsAtPoint 77 255 190 (qX4_findTermsAtPoint_4 13 167 rfl) (qX4_findTermsAtPoint_4 14 255 rfl) (qX4_findTermsAtPoint_4 15 190 rfl)
theorem dX4_findTermsAtPoint_80 : decode cX4_findTermsAtPoint 80 = .ok (.aload_n 0, 1) := @dq_o42 cX4_findTermsAtPoint 80 (qX4_findTermsAtPoint_5 0 42 rfl)
theorem dX4_findTermsAtPoint_81 : decode cX4_findTermsAtPoint 81 = .ok (.getfield 46, 3) := @dq_o180 cX4_findTermsAtPoint 81 0 46 (qX4_findTermsAtPoint_5 1 180 rfl) (qX4_findTermsAtPoint_5 2 0 rfl) (qX4_findTermsAtPoint_5 3 46 rfl)
theorem dX4_findTermsAtPoint_84 : decode cX4_findTermsAtPoint 84 = .ok (.aload_n 0, 1) := @dq_o42 cX4_findTermsAtPoint 84 (qX4_findTermsAtPoint_5 4 42 rfl)
theorem dX4_findTermsAtPoint_85 : decode cX4_findTermsAtPoint 85 = .ok (.getfield 12, 3) := @dq_o180 cX4_findTermsAtPoint 85 0 12 (qX4_findTermsAtPoint_5 5 180 rfl) (qX4_findTermsAtPoint_5 6 0 rfl) (qX4_findTermsAtPoint_5 7 12 rfl)
theorem dX4_findTermsAtPoint_88 : decode cX4_findTermsAtPoint 88 = .ok (.sipush 1000, 3) := @dq_o17 cX4_findTermsAtPoint 88 3 232 (qX4_findTermsAtPoint_5 8 17 rfl) (qX4_findTermsAtPoint_5 9 3 rfl) (qX4_findTermsAtPoint_5 10 232 rfl)
theorem dX4_findTermsAtPoint_91 : decode cX4_findTermsAtPoint 91 = .ok (.invokevirtual 89, 3) := @dq_o182 cX4_findTermsAtPoint 91 0 89 (qX4_findTermsAtPoint_5 11 182 rfl) (qX4_findTermsAtPoint_5 12 0 rfl) (qX4_findTermsAtPoint_5 13 89 rfl)
theorem dX4_findTermsAtPoint_94 : decode cX4_findTermsAtPoint 94 = .ok (.pop, 1) := @dq_o87 cX4_findTermsAtPoint 94 (qX4_findTermsAtPoint_5 14 87 rfl)
theorem dX4_findTermsAtPoint_95 : decode cX4_findTermsAtPoint 95 = .ok (.iconst 0, 1) := @dq_o3 cX4_findTermsAtPoint 95 (qX4_findTermsAtPoint_5 15 3 rfl)
theorem dX4_findTermsAtPoint_96 : decode cX4_findTermsAtPoint 96 = .ok (.istore_n 2, 1) := @dq_o61 cX4_findTermsAtPoint 96 (qX4_findTermsAtPoint_6 0 61 rfl)
theorem dX4_findTermsAtPoint_97 : decode cX4_findTermsAtPoint 97 = .ok (.iload_n 2, 1) := @dq_o28 cX4_findTermsAtPoint 97 (qX4_findTermsAtPoint_6 1 28 rfl)
theorem dX4_findTermsAtPoint_98 : decode cX4_findTermsAtPoint 98 = .ok (.aload_n 0, 1) := @dq_o42 cX4_findTermsAtPoint 98 (qX4_findTermsAtPoint_6 2 42 rfl)
theorem dX4_findTermsAtPoint_99 : decode cX4_findTermsAtPoint 99 = .ok (.getfield 12, 3) := @dq_o180 cX4_findTermsAtPoint 99 0 12 (qX4_findTermsAtPoint_6 3 180 rfl) (qX4_findTermsAtPoint_6 4 0 rfl) (qX4_findTermsAtPoint_6 5 12 rfl)
theorem dX4_findTermsAtPoint_102 : decode cX4_findTermsAtPoint 102 = .ok (.getfield 71, 3) := @dq_o180 cX4_findTermsAtPoint 102 0 71 (qX4_findTermsAtPoint_6 6 180 rfl) (qX4_findTermsAtPoint_6 7 0 rfl) (qX4_findTermsAtPoint_6 8 71 rfl)
theorem dX4_findTermsAtPoint_105 : decode cX4_findTermsAtPoint 105 = .ok (.if_icmp .ge 70, 3) := @dq_o162 cX4_findTermsAtPoint 105 0 70 (qX4_findTermsAtPoint_6 9 162 rfl) (qX4_findTermsAtPoint_6 10 0 rfl) (qX4_findTermsAtPoint_6 11 70 rfl)
theorem dX4_findTermsAtPoint_108 : decode cX4_findTermsAtPoint 108 = .ok (.aload_n 0, 1) := @dq_o42 cX4_findTermsAtPoint 108 (qX4_findTermsAtPoint_6 12 42 rfl)
theorem dX4_findTermsAtPoint_109 : decode cX4_findTermsAtPoint 109 = .ok (.getfield 12, 3) := @dq_o180 cX4_findTermsAtPoint 109 0 12 (qX4_findTermsAtPoint_6 13 180 rfl) (qX4_findTermsAtPoint_6 14 0 rfl) (qX4_findTermsAtPoint_6 15 12 rfl)
theorem dX4_findTermsAtPoint_112 : decode cX4_findTermsAtPoint 112 = .ok (.getfield 112, 3) := @dq_o180 cX4_findTermsAtPoint 112 0 112 (qX4_findTermsAtPoint_7 0 180 rfl) (qX4_findTermsAtPoint_7 1 0 rfl) (qX4_findTermsAtPoint_7 2 112 rfl)
theorem dX4_findTermsAtPoint_115 : decode cX4_findTermsAtPoint 115 = .ok (.iload_n 2, 1) := @dq_o28 cX4_findTermsAtPoint 115 (qX4_findTermsAtPoint_7 3 28 rfl)
theorem dX4_findTermsAtPoint_116 : decode cX4_findTermsAtPoint 116 = .ok (.iaload, 1) := @dq_o46 cX4_findTermsAtPoint 116 (qX4_findTermsAtPoint_7 4 46 rfl)
theorem dX4_findTermsAtPoint_117 : decode cX4_findTermsAtPoint 117 = .ok (.aload_n 0, 1) := @dq_o42 cX4_findTermsAtPoint 117 (qX4_findTermsAtPoint_7 5 42 rfl)
theorem dX4_findTermsAtPoint_118 : decode cX4_findTermsAtPoint 118 = .ok (.getfield 36, 3) := @dq_o180 cX4_findTermsAtPoint 118 0 36 (qX4_findTermsAtPoint_7 6 180 rfl) (qX4_findTermsAtPoint_7 7 0 rfl) (qX4_findTermsAtPoint_7 8 36 rfl)
theorem dX4_findTermsAtPoint_121 : decode cX4_findTermsAtPoint 121 = .ok (.if_icmp .ge 6, 3) := @dq_o162 cX4_findTermsAtPoint 121 0 6 (qX4_findTermsAtPoint_7 9 162 rfl) (qX4_findTermsAtPoint_7 10 0 rfl) (qX4_findTermsAtPoint_7 11 6 rfl)
theorem dX4_findTermsAtPoint_124 : decode cX4_findTermsAtPoint 124 = .ok (.goto 45, 3) := @dq_o167 cX4_findTermsAtPoint 124 0 45 (qX4_findTermsAtPoint_7 12 167 rfl) (qX4_findTermsAtPoint_7 13 0 rfl) (qX4_findTermsAtPoint_7 14 45 rfl)
theorem dX4_findTermsAtPoint_127 : decode cX4_findTermsAtPoint 127 = .ok (.aload_n 0, 1) := @dq_o42 cX4_findTermsAtPoint 127 (qX4_findTermsAtPoint_7 15 42 rfl)
theorem dX4_findTermsAtPoint_128 : decode cX4_findTermsAtPoint 128 = .ok (.getfield 46, 3) := @dq_o180 cX4_findTermsAtPoint 128 0 46 (qX4_findTermsAtPoint_8 0 180 rfl) (qX4_findTermsAtPoint_8 1 0 rfl) (qX4_findTermsAtPoint_8 2 46 rfl)
theorem dX4_findTermsAtPoint_131 : decode cX4_findTermsAtPoint 131 = .ok (.getfield 93, 3) := @dq_o180 cX4_findTermsAtPoint 131 0 93 (qX4_findTermsAtPoint_8 3 180 rfl) (qX4_findTermsAtPoint_8 4 0 rfl) (qX4_findTermsAtPoint_8 5 93 rfl)
theorem dX4_findTermsAtPoint_134 : decode cX4_findTermsAtPoint 134 = .ok (.iload_n 2, 1) := @dq_o28 cX4_findTermsAtPoint 134 (qX4_findTermsAtPoint_8 6 28 rfl)
theorem dX4_findTermsAtPoint_135 : decode cX4_findTermsAtPoint 135 = .ok (.iaload, 1) := @dq_o46 cX4_findTermsAtPoint 135 (qX4_findTermsAtPoint_8 7 46 rfl)
theorem dX4_findTermsAtPoint_136 : decode cX4_findTermsAtPoint 136 = .ok (.i2l, 1) := @dq_o133 cX4_findTermsAtPoint 136 (qX4_findTermsAtPoint_8 8 133 rfl)
theorem dX4_findTermsAtPoint_137 : decode cX4_findTermsAtPoint 137 = .ok (.aload_n 0, 1) := @dq_o42 cX4_findTermsAtPoint 137 (qX4_findTermsAtPoint_8 9 42 rfl)
theorem dX4_findTermsAtPoint_138 : decode cX4_findTermsAtPoint 138 = .ok (.getfield 20, 3) := @dq_o180 cX4_findTermsAtPoint 138 0 20 (qX4_findTermsAtPoint_8 10 180 rfl) (qX4_findTermsAtPoint_8 11 0 rfl) (qX4_findTermsAtPoint_8 12 20 rfl)
theorem dX4_findTermsAtPoint_141 : decode cX4_findTermsAtPoint 141 = .ok (.iload_n 2, 1) := @dq_o28 cX4_findTermsAtPoint 141 (qX4_findTermsAtPoint_8 13 28 rfl)
theorem dX4_findTermsAtPoint_142 : decode cX4_findTermsAtPoint 142 = .ok (.aaload, 1) := @dq_o50 cX4_findTermsAtPoint 142 (qX4_findTermsAtPoint_8 14 50 rfl)
theorem dX4_findTermsAtPoint_143 : decode cX4_findTermsAtPoint 143 = .ok (.aload_n 0, 1) := @dq_o42 cX4_findTermsAtPoint 143 (qX4_findTermsAtPoint_8 15 42 rfl)
theorem dX4_findTermsAtPoint_144 : decode cX4_findTermsAtPoint 144 = .ok (.getfield 39, 3) := @dq_o180 cX4_findTermsAtPoint 144 0 39 (qX4_findTermsAtPoint_9 0 180 rfl) (qX4_findTermsAtPoint_9 1 0 rfl) (qX4_findTermsAtPoint_9 2 39 rfl)
theorem dX4_findTermsAtPoint_147 : decode cX4_findTermsAtPoint 147 = .ok (.invokevirtual 123, 3) := @dq_o182 cX4_findTermsAtPoint 147 0 123 (qX4_findTermsAtPoint_9 3 182 rfl) (qX4_findTermsAtPoint_9 4 0 rfl) (qX4_findTermsAtPoint_9 5 123 rfl)
theorem dX4_findTermsAtPoint_150 : decode cX4_findTermsAtPoint 150 = .ok (.lsub, 1) := @dq_o101 cX4_findTermsAtPoint 150 (qX4_findTermsAtPoint_9 6 101 rfl)
theorem dX4_findTermsAtPoint_151 : decode cX4_findTermsAtPoint 151 = .ok (.lstore_n 3, 1) := @dq_o66 cX4_findTermsAtPoint 151 (qX4_findTermsAtPoint_9 7 66 rfl)
theorem dX4_findTermsAtPoint_152 : decode cX4_findTermsAtPoint 152 = .ok (.lload_n 3, 1) := @dq_o33 cX4_findTermsAtPoint 152 (qX4_findTermsAtPoint_9 8 33 rfl)
theorem dX4_findTermsAtPoint_153 : decode cX4_findTermsAtPoint 153 = .ok (.lconst 0, 1) := @dq_o9 cX4_findTermsAtPoint 153 (qX4_findTermsAtPoint_9 9 9 rfl)
theorem dX4_findTermsAtPoint_154 : decode cX4_findTermsAtPoint 154 = .ok (.lcmp, 1) := @dq_o148 cX4_findTermsAtPoint 154 (qX4_findTermsAtPoint_9 10 148 rfl)
theorem dX4_findTermsAtPoint_155 : decode cX4_findTermsAtPoint 155 = .ok (.ifCond .eq 14, 3) := @dq_o153 cX4_findTermsAtPoint 155 0 14 (qX4_findTermsAtPoint_9 11 153 rfl) (qX4_findTermsAtPoint_9 12 0 rfl) (qX4_findTermsAtPoint_9 13 14 rfl)
theorem dX4_findTermsAtPoint_158 : decode cX4_findTermsAtPoint 158 = .ok (.aload_n 0, 1) := @dq_o42 cX4_findTermsAtPoint 158 (qX4_findTermsAtPoint_9 14 42 rfl)
theorem dX4_findTermsAtPoint_159 : decode cX4_findTermsAtPoint 159 = .ok (.getfield 20, 3) := @dq_o180 cX4_findTermsAtPoint 159 0 20 (qX4_findTermsAtPoint_9 15 180 rfl) (qX4_findTermsAtPoint_10 0 0 rfl) (qX4_findTermsAtPoint_10 1 20 rfl)
theorem dX4_findTermsAtPoint_162 : decode cX4_findTermsAtPoint 162 = .ok (.iload_n 2, 1) := @dq_o28 cX4_findTermsAtPoint 162 (qX4_findTermsAtPoint_10 2 28 rfl)
theorem dX4_findTermsAtPoint_163 : decode cX4_findTermsAtPoint 163 = .ok (.aaload, 1) := @dq_o50 cX4_findTermsAtPoint 163 (qX4_findTermsAtPoint_10 3 50 rfl)
theorem dX4_findTermsAtPoint_164 : decode cX4_findTermsAtPoint 164 = .ok (.iload_n 1, 1) := @dq_o27 cX4_findTermsAtPoint 164 (qX4_findTermsAtPoint_10 4 27 rfl)
theorem dX4_findTermsAtPoint_165 : decode cX4_findTermsAtPoint 165 = .ok (.lload_n 3, 1) := @dq_o33 cX4_findTermsAtPoint 165 (qX4_findTermsAtPoint_10 5 33 rfl)
theorem dX4_findTermsAtPoint_166 : decode cX4_findTermsAtPoint 166 = .ok (.invokevirtual 127, 3) := @dq_o182 cX4_findTermsAtPoint 166 0 127 (qX4_findTermsAtPoint_10 6 182 rfl) (qX4_findTermsAtPoint_10 7 0 rfl) (qX4_findTermsAtPoint_10 8 127 rfl)
theorem dX4_findTermsAtPoint_169 : decode cX4_findTermsAtPoint 169 = .ok (.iinc 2 1, 3) := @dq_o132 cX4_findTermsAtPoint 169 2 1 (qX4_findTermsAtPoint_10 9 132 rfl) (qX4_findTermsAtPoint_10 10 2 rfl) (qX4_findTermsAtPoint_10 11 1 rfl)
theorem dX4_findTermsAtPoint_172 : decode cX4_findTermsAtPoint 172 = .ok (.goto (-75), 3) := @dq_o167 cX4_findTermsAtPoint 172 255 181 (qX4_findTermsAtPoint_10 12 167 rfl) (qX4_findTermsAtPoint_10 13 255 rfl) (qX4_findTermsAtPoint_10 14 181 rfl)
theorem dX4_findTermsAtPoint_175 : decode cX4_findTermsAtPoint 175 = .ok (.return_, 1) := @dq_o177 cX4_findTermsAtPoint 175 (qX4_findTermsAtPoint_10 15 177 rfl)
abbrev qaX5_init_0 : List Nat := [42, 183, 0, 3, 42, 3, 181, 0, 9, 42, 2, 181, 0, 15, 42, 16]
abbrev qaX5_init_1 : List Nat := [9, 16, 6, 197, 0, 18, 2, 181, 0, 20, 42, 16, 9, 16, 6, 197]
abbrev qaX5_init_2 : List Nat := [0, 18, 2, 181, 0, 23, 42, 16, 9, 16, 6, 197, 0, 18, 2, 181]
abbrev qaX5_init_3 : List Nat := [0, 26, 42, 17, 0, 200, 188, 10, 181, 0, 29, 42, 3, 181, 0, 33]
abbrev qaX5_init_4 : List Nat := [42, 3, 181, 0, 36, 42, 3, 181, 0, 39, 42, 43, 181, 0, 42, 42]
abbrev qaX5_init_5 : List Nat := [44, 181, 0, 46, 177]
def qtX5_init_6 : List Nat := []
def qtX5_init_5 : List Nat := qaX5_init_5 ++ qtX5_init_6
def qtX5_init_4 : List Nat := qaX5_init_4 ++ qtX5_init_5
def qtX5_init_3 : List Nat := qaX5_init_3 ++ qtX5_init_4
def qtX5_init_2 : List Nat := qaX5_init_2 ++ qtX5_init_3
def qtX5_init_1 : List Nat := qaX5_init_1 ++ qtX5_init_2
def qtX5_init_0 : List Nat := qaX5_init_0 ++ qtX5_init_1
theorem qeX5_init : cX5_init.data.toList.map UInt8.toNat = qtX5_init_0 := by decide +kernel
theorem qsX5_init_0 : ∀ i, dqNth qtX5_init_0 (0 + i) = dqNth qtX5_init_0 i := fun i => by rw [Nat.zero_add]
theorem qsX5_init_1 : ∀ i, dqNth qtX5_init_0 (16 + i) = dqNth qtX5_init_1 i := dq_step qsX5_init_0 rfl rfl
theorem qsX5_init_2 : ∀ i, dqNth qtX5_init_0 (32 + i) = dqNth qtX5_init_2 i := dq_step qsX5_init_1 rfl rfl
theorem qsX5_init_3 : ∀ i, dqNth qtX5_init_0 (48 + i) = dqNth qtX5_init_3 i := dq_step qsX5_init_2 rfl rfl
theorem qsX5_init_4 : ∀ i, dqNth qtX5_init_0 (64 + i) = dqNth qtX5_init_4 i := dq_step qsX5_init_3 rfl rfl
theorem qsX5_init_5 : ∀ i, dqNth qtX5_init_0 (80 + i) = dqNth qtX5_init_5 i := dq_step qsX5_init_4 rfl rfl
theorem qX5_init_0 (i b : Nat) (h : dqNth qaX5_init_0 i = some b) : DqBy cX5_init (0 + i) b := dqBy_of qeX5_init ((qsX5_init_0 i).trans (dq_in h))
theorem qX5_init_1 (i b : Nat) (h : dqNth qaX5_init_1 i = some b) : DqBy cX5_init (16 + i) b := dqBy_of qeX5_init ((qsX5_init_1 i).trans (dq_in h))
theorem qX5_init_2 (i b : Nat) (h : dqNth qaX5_init_2 i = some b) : DqBy cX5_init (32 + i) b := dqBy_of qeX5_init ((qsX5_init_2 i).trans (dq_in h))
theorem qX5_init_3 (i b : Nat) (h : dqNth qaX5_init_3 i = some b) : DqBy cX5_init (48 + i) b := dqBy_of qeX5_init ((qsX5_init_3 i).trans (dq_in h))
theorem qX5_init_4 (i b : Nat) (h : dqNth qaX5_init_4 i = some b) : DqBy cX5_init (64 + i) b := dqBy_of qeX5_init ((qsX5_init_4 i).trans (dq_in h))
theorem qX5_init_5 (i b : Nat) (h : dqNth qaX5_init_5 i = some b) : DqBy cX5_init (80 + i) b := dqBy_of qeX5_init ((qsX5_init_5 i).trans (dq_in h))
theorem dX5_init_0 : decode cX5_init 0 = .ok (.aload_n 0, 1) := @dq_o42 cX5_init 0 (qX5_init_0 0 42 rfl)
theorem dX5_init_1 : decode cX5_init 1 = .ok (.invokespecial 3, 3) := @dq_o183 cX5_init 1 0 3 (qX5_init_0 1 183 rfl) (qX5_init_0 2 0 rfl) (qX5_init_0 3 3 rfl)
theorem dX5_init_4 : decode cX5_init 4 = .ok (.aload_n 0, 1) := @dq_o42 cX5_init 4 (qX5_init_0 4 42 rfl)
theorem dX5_init_5 : decode cX5_init 5 = .ok (.iconst 0, 1) := @dq_o3 cX5_init 5 (qX5_init_0 5 3 rfl)
theorem dX5_init_6 : decode cX5_init 6 = .ok (.putfield 9, 3) := @dq_o181 cX5_init 6 0 9 (qX5_init_0 6 181 rfl) (qX5_init_0 7 0 rfl) (qX5_init_0 8 9 rfl)
theorem dX5_init_9 : decode cX5_init 9 = .ok (.aload_n 0, 1) := @dq_o42 cX5_init 9 (qX5_init_0 9 42 rfl)
theorem dX5_init_10 : decode cX5_init 10 = .ok (.iconst (-1), 1) := @dq_o2 cX5_init 10 (qX5_init_0 10 2 rfl)
theorem dX5_init_11 : decode cX5_init 11 = .ok (.putfield 15, 3) := @dq_o181 cX5_init 11 0 15 (qX5_init_0 11 181 rfl) (qX5_init_0 12 0 rfl) (qX5_init_0 13 15 rfl)
theorem dX5_init_14 : decode cX5_init 14 = .ok (.aload_n 0, 1) := @dq_o42 cX5_init 14 (qX5_init_0 14 42 rfl)
theorem dX5_init_15 : decode cX5_init 15 = .ok (.bipush 9, 2) := @dq_o16 cX5_init 15 9 (qX5_init_0 15 16 rfl) (qX5_init_1 0 9 rfl)
theorem dX5_init_17 : decode cX5_init 17 = .ok (.bipush 6, 2) := @dq_o16 cX5_init 17 6 (qX5_init_1 1 16 rfl) (qX5_init_1 2 6 rfl)
theorem dX5_init_19 : decode cX5_init 19 = .ok (.multianewarray 18 2, 4) := by decide +kernel
theorem dX5_init_23 : decode cX5_init 23 = .ok (.putfield 20, 3) := @dq_o181 cX5_init 23 0 20 (qX5_init_1 7 181 rfl) (qX5_init_1 8 0 rfl) (qX5_init_1 9 20 rfl)
theorem dX5_init_26 : decode cX5_init 26 = .ok (.aload_n 0, 1) := @dq_o42 cX5_init 26 (qX5_init_1 10 42 rfl)
theorem dX5_init_27 : decode cX5_init 27 = .ok (.bipush 9, 2) := @dq_o16 cX5_init 27 9 (qX5_init_1 11 16 rfl) (qX5_init_1 12 9 rfl)
theorem dX5_init_29 : decode cX5_init 29 = .ok (.bipush 6, 2) := @dq_o16 cX5_init 29 6 (qX5_init_1 13 16 rfl) (qX5_init_1 14 6 rfl)
theorem dX5_init_31 : decode cX5_init 31 = .ok (.multianewarray 18 2, 4) := by decide +kernel
theorem dX5_init_35 : decode cX5_init 35 = .ok (.putfield 23, 3) := @dq_o181 cX5_init 35 0 23 (qX5_init_2 3 181 rfl) (qX5_init_2 4 0 rfl) (qX5_init_2 5 23 rfl)
theorem dX5_init_38 : decode cX5_init 38 = .ok (.aload_n 0, 1) := @dq_o42 cX5_init 38 (qX5_init_2 6 42 rfl)
theorem dX5_init_39 : decode cX5_init 39 = .ok (.bipush 9, 2) := @dq_o16 cX5_init 39 9 (qX5_init_2 7 16 rfl) (qX5_init_2 8 9 rfl)
theorem dX5_init_41 : decode cX5_init 41 = .ok (.bipush 6, 2) := @dq_o16 cX5_init 41 6 (qX5_init_2 9 16 rfl) (qX5_init_2 10 6 rfl)
theorem dX5_init_43 : decode cX5_init 43 = .ok (.multianewarray 18 2, 4) := by decide +kernel
theorem dX5_init_47 : decode cX5_init 47 = .ok (.putfield 26, 3) := @dq_o181 cX5_init 47 0 26 (qX5_init_2 15 181 rfl) (qX5_init_3 0 0 rfl) (qX5_init_3 1 26 rfl)
theorem dX5_init_50 : decode cX5_init 50 = .ok (.aload_n 0, 1) := @dq_o42 cX5_init 50 (qX5_init_3 2 42 rfl)
theorem dX5_init_51 : decode cX5_init 51 = .ok (.sipush 200, 3) := @dq_o17 cX5_init 51 0 200 (qX5_init_3 3 17 rfl) (qX5_init_3 4 0 rfl) (qX5_init_3 5 200 rfl)
theorem dX5_init_54 : decode cX5_init 54 = .ok (.newarray .int, 2) := by decide +kernel
theorem dX5_init_56 : decode cX5_init 56 = .ok (.putfield 29, 3) := @dq_o181 cX5_init 56 0 29 (qX5_init_3 8 181 rfl) (qX5_init_3 9 0 rfl) (qX5_init_3 10 29 rfl)
theorem dX5_init_59 : decode cX5_init 59 = .ok (.aload_n 0, 1) := @dq_o42 cX5_init 59 (qX5_init_3 11 42 rfl)
theorem dX5_init_60 : decode cX5_init 60 = .ok (.iconst 0, 1) := @dq_o3 cX5_init 60 (qX5_init_3 12 3 rfl)
theorem dX5_init_61 : decode cX5_init 61 = .ok (.putfield 33, 3) := @dq_o181 cX5_init 61 0 33 (qX5_init_3 13 181 rfl) (qX5_init_3 14 0 rfl) (qX5_init_3 15 33 rfl)
theorem dX5_init_64 : decode cX5_init 64 = .ok (.aload_n 0, 1) := @dq_o42 cX5_init 64 (qX5_init_4 0 42 rfl)
theorem dX5_init_65 : decode cX5_init 65 = .ok (.iconst 0, 1) := @dq_o3 cX5_init 65 (qX5_init_4 1 3 rfl)
theorem dX5_init_66 : decode cX5_init 66 = .ok (.putfield 36, 3) := @dq_o181 cX5_init 66 0 36 (qX5_init_4 2 181 rfl) (qX5_init_4 3 0 rfl) (qX5_init_4 4 36 rfl)
theorem dX5_init_69 : decode cX5_init 69 = .ok (.aload_n 0, 1) := @dq_o42 cX5_init 69 (qX5_init_4 5 42 rfl)
theorem dX5_init_70 : decode cX5_init 70 = .ok (.iconst 0, 1) := @dq_o3 cX5_init 70 (qX5_init_4 6 3 rfl)
theorem dX5_init_71 : decode cX5_init 71 = .ok (.putfield 39, 3) := @dq_o181 cX5_init 71 0 39 (qX5_init_4 7 181 rfl) (qX5_init_4 8 0 rfl) (qX5_init_4 9 39 rfl)
theorem dX5_init_74 : decode cX5_init 74 = .ok (.aload_n 0, 1) := @dq_o42 cX5_init 74 (qX5_init_4 10 42 rfl)
theorem dX5_init_75 : decode cX5_init 75 = .ok (.aload_n 1, 1) := @dq_o43 cX5_init 75 (qX5_init_4 11 43 rfl)
theorem dX5_init_76 : decode cX5_init 76 = .ok (.putfield 42, 3) := @dq_o181 cX5_init 76 0 42 (qX5_init_4 12 181 rfl) (qX5_init_4 13 0 rfl) (qX5_init_4 14 42 rfl)
theorem dX5_init_79 : decode cX5_init 79 = .ok (.aload_n 0, 1) := @dq_o42 cX5_init 79 (qX5_init_4 15 42 rfl)
theorem dX5_init_80 : decode cX5_init 80 = .ok (.aload_n 2, 1) := @dq_o44 cX5_init 80 (qX5_init_5 0 44 rfl)
theorem dX5_init_81 : decode cX5_init 81 = .ok (.putfield 46, 3) := @dq_o181 cX5_init 81 0 46 (qX5_init_5 1 181 rfl) (qX5_init_5 2 0 rfl) (qX5_init_5 3 46 rfl)
theorem dX5_init_84 : decode cX5_init 84 = .ok (.return_, 1) := @dq_o177 cX5_init 84 (qX5_init_5 4 177 rfl)
abbrev qaX5_forget_0 : List Nat := [42, 3, 181, 0, 9, 42, 2, 181, 0, 15, 177]
def qtX5_forget_1 : List Nat := []
def qtX5_forget_0 : List Nat := qaX5_forget_0 ++ qtX5_forget_1
theorem qeX5_forget : cX5_forget.data.toList.map UInt8.toNat = qtX5_forget_0 := by decide +kernel
theorem qsX5_forget_0 : ∀ i, dqNth qtX5_forget_0 (0 + i) = dqNth qtX5_forget_0 i := fun i => by rw [Nat.zero_add]
theorem qX5_forget_0 (i b : Nat) (h : dqNth qaX5_forget_0 i = some b) : DqBy cX5_forget (0 + i) b := dqBy_of qeX5_forget ((qsX5_forget_0 i).trans (dq_in h))
theorem dX5_forget_0 : decode cX5_forget 0 = .ok (.aload_n 0, 1) := @dq_o42 cX5_forget 0 (qX5_forget_0 0 42 rfl)
theorem dX5_forget_1 : decode cX5_forget 1 = .ok (.iconst 0, 1) := @dq_o3 cX5_forget 1 (qX5_forget_0 1 3 rfl)
theorem dX5_forget_2 : decode cX5_forget 2 = .ok (.putfield 9, 3) := @dq_o181 cX5_forget 2 0 9 (qX5_forget_0 2 181 rfl) (qX5_forget_0 3 0 rfl) (qX5_forget_0 4 9 rfl)
theorem dX5_forget_5 : decode cX5_forget 5 = .ok (.aload_n 0, 1) := @dq_o42 cX5_forget 5 (qX5_forget_0 5 42 rfl)
theorem dX5_forget_6 : decode cX5_forget 6 = .ok (.iconst (-1), 1) := @dq_o2 cX5_forget 6 (qX5_forget_0 6 2 rfl)
theorem dX5_forget_7 : decode cX5_forget 7 = .ok (.putfield 15, 3) := @dq_o181 cX5_forget 7 0 15 (qX5_forget_0 7 181 rfl) (qX5_forget_0 8 0 rfl) (qX5_forget_0 9 15 rfl)
theorem dX5_forget_10 : decode cX5_forget 10 = .ok (.return_, 1) := @dq_o177 cX5_forget 10 (qX5_forget_0 10 177 rfl)
abbrev qaX5_read_0 : List Nat := [42, 3, 28, 43, 190, 17, 0, 200, 184, 0, 50, 184, 0, 50, 184, 0]
abbrev qaX5_read_1 : List Nat := [56, 181, 0, 33, 43, 3, 42, 180, 0, 29, 3, 42, 180, 0, 33, 184]
abbrev qaX5_read_2 : List Nat := [0, 59, 42, 3, 181, 0, 36, 42, 3, 181, 0, 39, 42, 3, 182, 0]
abbrev qaX5_read_3 : List Nat := [65, 154, 0, 5, 3, 172, 42, 180, 0, 36, 42, 180, 0, 33, 162, 0]
abbrev qaX5_read_4 : List Nat := [15, 42, 4, 42, 180, 0, 36, 182, 0, 69, 153, 0, 7, 4, 167, 0]
abbrev qaX5_read_5 : List Nat := [4, 3, 172]
def qtX5_read_6 : List Nat := []
def qtX5_read_5 : List Nat := qaX5_read_5 ++ qtX5_read_6
def qtX5_read_4 : List Nat := qaX5_read_4 ++ qtX5_read_5
def qtX5_read_3 : List Nat := qaX5_read_3 ++ qtX5_read_4
def qtX5_read_2 : List Nat := qaX5_read_2 ++ qtX5_read_3
def qtX5_read_1 : List Nat := qaX5_read_1 ++ qtX5_read_2
def qtX5_read_0 : List Nat := qaX5_read_0 ++ qtX5_read_1
theorem qeX5_read : cX5_read.data.toList.map UInt8.toNat = qtX5_read_0 := by decide +kernel
theorem qsX5_read_0 : ∀ i, dqNth qtX5_read_0 (0 + i) = dqNth qtX5_read_0 i := fun i => by rw [Nat.zero_add]
theorem qsX5_read_1 : ∀ i, dqNth qtX5_read_0 (16 + i) = dqNth qtX5_read_1 i := dq_step qsX5_read_0 rfl rfl
theorem qsX5_read_2 : ∀ i, dqNth qtX5_read_0 (32 + i) = dqNth qtX5_read_2 i := dq_step qsX5_read_1 rfl rfl
theorem qsX5_read_3 : ∀ i, dqNth qtX5_read_0 (48 + i) = dqNth qtX5_read_3 i := dq_step qsX5_read_2 rfl rfl
theorem qsX5_read_4 : ∀ i, dqNth qtX5_read_0 (64 + i) = dqNth qtX5_read_4 i := dq_step qsX5_read_3 rfl rfl
theorem qsX5_read_5 : ∀ i, dqNth qtX5_read_0 (80 + i) = dqNth qtX5_read_5 i := dq_step qsX5_read_4 rfl rfl
theorem qX5_read_0 (i b : Nat) (h : dqNth qaX5_read_0 i = some b) : DqBy cX5_read (0 + i) b := dqBy_of qeX5_read ((qsX5_read_0 i).trans (dq_in h))
theorem qX5_read_1 (i b : Nat) (h : dqNth qaX5_read_1 i = some b) : DqBy cX5_read (16 + i) b := dqBy_of qeX5_read ((qsX5_read_1 i).trans (dq_in h))
theorem qX5_read_2 (i b : Nat) (h : dqNth qaX5_read_2 i = some b) : DqBy cX5_read (32 + i) b := dqBy_of qeX5_read ((qsX5_read_2 i).trans (dq_in h))
theorem qX5_read_3 (i b : Nat) (h : dqNth qaX5_read_3 i = some b) : DqBy cX5_read (48 + i) b := dqBy_of qeX5_read ((qsX5_read_3 i).trans (dq_in h))
theorem qX5_read_4 (i b : Nat) (h : dqNth qaX5_read_4 i = some b) : DqBy cX5_read (64 + i) b := dqBy_of qeX5_read ((qsX5_read_4 i).trans (dq_in h))
theorem qX5_read_5 (i b : Nat) (h : dqNth qaX5_read_5 i = some b) : DqBy cX5_read (80 + i) b := dqBy_of qeX5_read ((qsX5_read_5 i).trans (dq_in h))
theorem dX5_read_0 : decode cX5_read 0 = .ok (.aload_n 0, 1) := @dq_o42 cX5_read 0 (qX5_read_0 0 42 rfl)
theorem dX5_read_1 : decode cX5_read 1 = .ok (.iconst 0, 1) := @dq_o3 cX5_read 1 (qX5_read_0 1 3 rfl)
theorem dX5_read_2 : decode cX5_read 2 = .ok (.iload_n 2, 1) := @dq_o28 cX5_read 2 (qX5_read_0 2 28 rfl)
theorem dX5_read_3 : decode cX5_read 3 = .ok (.aload_n 1, 1) := @dq_o43 cX5_read 3 (qX5_read_0 3 43 rfl)
theorem dX5_read_4 : decode cX5_read 4 = .ok (.arraylength, 1) := @dq_o190 cX5_read 4 (qX5_read_0 4 190 rfl)
theorem dX5_read_5 : decode cX5_read 5 = .ok (.sipush 200, 3) := @dq_o17 cX5_read 5 0 200 (qX5_read_0 5 17 rfl) (qX5_read_0 6 0 rfl) (qX5_read_0 7 200 rfl)
theorem dX5_read_8 : decode cX5_read 8 = .ok (.invokestatic 50, 3) := @dq_o184 cX5_read 8 0 50 (qX5_read_0 8 184 rfl) (qX5_read_0 9 0 rfl) (qX5_read_0 10 50 rfl)
theorem dX5_read_11 : decode cX5_read 11 = .ok (.invokestatic 50, 3) := @dq_o184 cX5_read 11 0 50 (qX5_read_0 11 184 rfl) (qX5_read_0 12 0 rfl) (qX5_read_0 13 50 rfl)
theorem dX5_read_14 : decode cX5_read 14 = .ok (.invokestatic 56, 3) := @dq_o184 cX5_read 14 0 56 (qX5_read_0 14 184 rfl) (qX5_read_0 15 0 rfl) (qX5_read_1 0 56 rfl)
theorem dX5_read_17 : decode cX5_read 17 = .ok (.putfield 33, 3) := @dq_o181 cX5_read 17 0 33 (qX5_read_1 1 181 rfl) (qX5_read_1 2 0 rfl) (qX5_read_1 3 33 rfl)
theorem dX5_read_20 : decode cX5_read 20 = .ok (.aload_n 1, 1) := @dq_o43 cX5_read 20 (qX5_read_1 4 43 rfl)
theorem dX5_read_21 : decode cX5_read 21 = .ok (.iconst 0, 1) := @dq_o3 cX5_read 21 (qX5_read_1 5 3 rfl)
theorem dX5_read_22 : decode cX5_read 22 = .ok (.aload_n 0, 1) := @dq_o42 cX5_read 22 (qX5_read_1 6 42 rfl)
theorem dX5_read_23 : decode cX5_read 23 = .ok (.getfield 29, 3) := @dq_o180 cX5_read 23 0 29 (qX5_read_1 7 180 rfl) (qX5_read_1 8 0 rfl) (qX5_read_1 9 29 rfl)
theorem dX5_read_26 : decode cX5_read 26 = .ok (.iconst 0, 1) := @dq_o3 cX5_read 26 (qX5_read_1 10 3 rfl)
theorem dX5_read_27 : decode cX5_read 27 = .ok (.aload_n 0, 1) := @dq_o42 cX5_read 27 (qX5_read_1 11 42 rfl)
theorem dX5_read_28 : decode cX5_read 28 = .ok (.getfield 33, 3) := @dq_o180 cX5_read 28 0 33 (qX5_read_1 12 180 rfl) (qX5_read_1 13 0 rfl) (qX5_read_1 14 33 rfl)
theorem dX5_read_31 : decode cX5_read 31 = .ok (.invokestatic 59, 3) := @dq_o184 cX5_read 31 0 59 (qX5_read_1 15 184 rfl) (qX5_read_2 0 0 rfl) (qX5_read_2 1 59 rfl)
theorem dX5_read_34 : decode cX5_read 34 = .ok (.aload_n 0, 1) := @dq_o42 cX5_read 34 (qX5_read_2 2 42 rfl)
theorem dX5_read_35 : decode cX5_read 35 = .ok (.iconst 0, 1) := @dq_o3 cX5_read 35 (qX5_read_2 3 3 rfl)
theorem dX5_read_36 : decode cX5_read 36 = .ok (.putfield 36, 3) := @dq_o181 cX5_read 36 0 36 (qX5_read_2 4 181 rfl) (qX5_read_2 5 0 rfl) (qX5_read_2 6 36 rfl)
theorem dX5_read_39 : decode cX5_read 39 = .ok (.aload_n 0, 1) := @dq_o42 cX5_read 39 (qX5_read_2 7 42 rfl)
theorem dX5_read_40 : decode cX5_read 40 = .ok (.iconst 0, 1) := @dq_o3 cX5_read 40 (qX5_read_2 8 3 rfl)
theorem dX5_read_41 : decode cX5_read 41 = .ok (.putfield 39, 3) := @dq_o181 cX5_read 41 0 39 (qX5_read_2 9 181 rfl) (qX5_read_2 10 0 rfl) (qX5_read_2 11 39 rfl)
theorem dX5_read_44 : decode cX5_read 44 = .ok (.aload_n 0, 1) := @dq_o42 cX5_read 44 (qX5_read_2 12 42 rfl)
theorem dX5_read_45 : decode cX5_read 45 = .ok (.iconst 0, 1) := @dq_o3 cX5_read 45 (qX5_read_2 13 3 rfl)
theorem dX5_read_46 : decode cX5_read 46 = .ok (.invokevirtual 65, 3) := @dq_o182 cX5_read 46 0 65 (qX5_read_2 14 182 rfl) (qX5_read_2 15 0 rfl) (qX5_read_3 0 65 rfl)
theorem dX5_read_49 : decode cX5_read 49 = .ok (.ifCond .ne 5, 3) := @dq_o154 cX5_read 49 0 5 (qX5_read_3 1 154 rfl) (qX5_read_3 2 0 rfl) (qX5_read_3 3 5 rfl)
theorem dX5_read_52 : decode cX5_read 52 = .ok (.iconst 0, 1) := @dq_o3 cX5_read 52 (qX5_read_3 4 3 rfl)
theorem dX5_read_53 : decode cX5_read 53 = .ok (.ireturn, 1) := @dq_o172 cX5_read 53 (qX5_read_3 5 172 rfl)
theorem dX5_read_54 : decode cX5_read 54 = .ok (.aload_n 0, 1) := @dq_o42 cX5_read 54 (qX5_read_3 6 42 rfl)
theorem dX5_read_55 : decode cX5_read 55 = .ok (.getfield 36, 3) := @dq_o180 cX5_read 55 0 36 (qX5_read_3 7 180 rfl) (qX5_read_3 8 0 rfl) (qX5_read_3 9 36 rfl)
theorem dX5_read_58 : decode cX5_read 58 = .ok (.aload_n 0, 1) := @dq_o42 cX5_read 58 (qX5_read_3 10 42 rfl)
theorem dX5_read_59 : decode cX5_read 59 = .ok (.getfield 33, 3) := @dq_o180 cX5_read 59 0 33 (qX5_read_3 11 180 rfl) (qX5_read_3 12 0 rfl) (qX5_read_3 13 33 rfl)
theorem dX5_read_62 : decode cX5_read 62 = .ok (.if_icmp .ge 15, 3) := @dq_o162 cX5_read 62 0 15 (qX5_read_3 14 162 rfl) (qX5_read_3 15 0 rfl) (qX5_read_4 0 15 rfl)
theorem dX5_read_65 : decode cX5_read 65 = .ok (.aload_n 0, 1) := @dq_o42 cX5_read 65 (qX5_read_4 1 42 rfl)
theorem dX5_read_66 : decode cX5_read 66 = .ok (.iconst 1, 1) := @dq_o4 cX5_read 66 (qX5_read_4 2 4 rfl)
theorem dX5_read_67 : decode cX5_read 67 = .ok (.aload_n 0, 1) := @dq_o42 cX5_read 67 (qX5_read_4 3 42 rfl)
theorem dX5_read_68 : decode cX5_read 68 = .ok (.getfield 36, 3) := @dq_o180 cX5_read 68 0 36 (qX5_read_4 4 180 rfl) (qX5_read_4 5 0 rfl) (qX5_read_4 6 36 rfl)
theorem dX5_read_71 : decode cX5_read 71 = .ok (.invokevirtual 69, 3) := @dq_o182 cX5_read 71 0 69 (qX5_read_4 7 182 rfl) (qX5_read_4 8 0 rfl) (qX5_read_4 9 69 rfl)
theorem dX5_read_74 : decode cX5_read 74 = .ok (.ifCond .eq 7, 3) := @dq_o153 cX5_read 74 0 7 (qX5_read_4 10 153 rfl) (qX5_read_4 11 0 rfl) (qX5_read_4 12 7 rfl)
theorem dX5_read_77 : decode cX5_read 77 = .ok (.iconst 1, 1) := @dq_o4 cX5_read 77 (qX5_read_4 13 4 rfl)
theorem dX5_read_78 : decode cX5_read 78 = .ok (.goto 4, 3) := @dq_o167 cX5_read 78 0 4 (qX5_read_4 14 167 rfl) (qX5_read_4 15 0 rfl) (qX5_read_5 0 4 rfl)
theorem dX5_read_81 : decode cX5_read 81 = .ok (.iconst 0, 1) := @dq_o3 cX5_read 81 (qX5_read_5 1 3 rfl)
theorem dX5_read_82 : decode cX5_read 82 = .ok (.ireturn, 1) := @dq_o172 cX5_read 82 (qX5_read_5 2 172 rfl)
abbrev qaX5_fail_0 : List Nat := [42, 27, 181, 0, 9, 42, 28, 181, 0, 15, 3, 172]
def qtX5_fail_1 : List Nat := []
def qtX5_fail_0 : List Nat := qaX5_fail_0 ++ qtX5_fail_1
theorem qeX5_fail : cX5_fail.data.toList.map UInt8.toNat = qtX5_fail_0 := by decide +kernel
theorem qsX5_fail_0 : ∀ i, dqNth qtX5_fail_0 (0 + i) = dqNth qtX5_fail_0 i := fun i => by rw [Nat.zero_add]
theorem qX5_fail_0 (i b : Nat) (h : dqNth qaX5_fail_0 i = some b) : DqBy cX5_fail (0 + i) b := dqBy_of qeX5_fail ((qsX5_fail_0 i).trans (dq_in h))
theorem dX5_fail_0 : decode cX5_fail 0 = .ok (.aload_n 0, 1) := @dq_o42 cX5_fail 0 (qX5_fail_0 0 42 rfl)
theorem dX5_fail_1 : decode cX5_fail 1 = .ok (.iload_n 1, 1) := @dq_o27 cX5_fail 1 (qX5_fail_0 1 27 rfl)
theorem dX5_fail_2 : decode cX5_fail 2 = .ok (.putfield 9, 3) := @dq_o181 cX5_fail 2 0 9 (qX5_fail_0 2 181 rfl) (qX5_fail_0 3 0 rfl) (qX5_fail_0 4 9 rfl)
theorem dX5_fail_5 : decode cX5_fail 5 = .ok (.aload_n 0, 1) := @dq_o42 cX5_fail 5 (qX5_fail_0 5 42 rfl)
theorem dX5_fail_6 : decode cX5_fail 6 = .ok (.iload_n 2, 1) := @dq_o28 cX5_fail 6 (qX5_fail_0 6 28 rfl)
theorem dX5_fail_7 : decode cX5_fail 7 = .ok (.putfield 15, 3) := @dq_o181 cX5_fail 7 0 15 (qX5_fail_0 7 181 rfl) (qX5_fail_0 8 0 rfl) (qX5_fail_0 9 15 rfl)
theorem dX5_fail_10 : decode cX5_fail 10 = .ok (.iconst 0, 1) := @dq_o3 cX5_fail 10 (qX5_fail_0 10 3 rfl)
theorem dX5_fail_11 : decode cX5_fail 11 = .ok (.ireturn, 1) := @dq_o172 cX5_fail 11 (qX5_fail_0 11 172 rfl)
abbrev qaX5_signHere_0 : List Nat := [42, 180, 0, 36, 155, 0, 26, 42, 180, 0, 36, 42, 180, 0, 33, 162]
abbrev qaX5_signHere_1 : List Nat := [0, 15, 42, 180, 0, 29, 42, 180, 0, 36, 46, 167, 0, 4, 2, 172]
def qtX5_signHere_2 : List Nat := []
def qtX5_signHere_1 : List Nat := qaX5_signHere_1 ++ qtX5_signHere_2
def qtX5_signHere_0 : List Nat := qaX5_signHere_0 ++ qtX5_signHere_1
theorem qeX5_signHere : cX5_signHere.data.toList.map UInt8.toNat = qtX5_signHere_0 := by decide +kernel
theorem qsX5_signHere_0 : ∀ i, dqNth qtX5_signHere_0 (0 + i) = dqNth qtX5_signHere_0 i := fun i => by rw [Nat.zero_add]
theorem qsX5_signHere_1 : ∀ i, dqNth qtX5_signHere_0 (16 + i) = dqNth qtX5_signHere_1 i := dq_step qsX5_signHere_0 rfl rfl
theorem qX5_signHere_0 (i b : Nat) (h : dqNth qaX5_signHere_0 i = some b) : DqBy cX5_signHere (0 + i) b := dqBy_of qeX5_signHere ((qsX5_signHere_0 i).trans (dq_in h))
theorem qX5_signHere_1 (i b : Nat) (h : dqNth qaX5_signHere_1 i = some b) : DqBy cX5_signHere (16 + i) b := dqBy_of qeX5_signHere ((qsX5_signHere_1 i).trans (dq_in h))
theorem dX5_signHere_0 : decode cX5_signHere 0 = .ok (.aload_n 0, 1) := @dq_o42 cX5_signHere 0 (qX5_signHere_0 0 42 rfl)
theorem dX5_signHere_1 : decode cX5_signHere 1 = .ok (.getfield 36, 3) := @dq_o180 cX5_signHere 1 0 36 (qX5_signHere_0 1 180 rfl) (qX5_signHere_0 2 0 rfl) (qX5_signHere_0 3 36 rfl)
theorem dX5_signHere_4 : decode cX5_signHere 4 = .ok (.ifCond .lt 26, 3) := @dq_o155 cX5_signHere 4 0 26 (qX5_signHere_0 4 155 rfl) (qX5_signHere_0 5 0 rfl) (qX5_signHere_0 6 26 rfl)
theorem dX5_signHere_7 : decode cX5_signHere 7 = .ok (.aload_n 0, 1) := @dq_o42 cX5_signHere 7 (qX5_signHere_0 7 42 rfl)
theorem dX5_signHere_8 : decode cX5_signHere 8 = .ok (.getfield 36, 3) := @dq_o180 cX5_signHere 8 0 36 (qX5_signHere_0 8 180 rfl) (qX5_signHere_0 9 0 rfl) (qX5_signHere_0 10 36 rfl)
theorem dX5_signHere_11 : decode cX5_signHere 11 = .ok (.aload_n 0, 1) := @dq_o42 cX5_signHere 11 (qX5_signHere_0 11 42 rfl)
theorem dX5_signHere_12 : decode cX5_signHere 12 = .ok (.getfield 33, 3) := @dq_o180 cX5_signHere 12 0 33 (qX5_signHere_0 12 180 rfl) (qX5_signHere_0 13 0 rfl) (qX5_signHere_0 14 33 rfl)
theorem dX5_signHere_15 : decode cX5_signHere 15 = .ok (.if_icmp .ge 15, 3) := @dq_o162 cX5_signHere 15 0 15 (qX5_signHere_0 15 162 rfl) (qX5_signHere_1 0 0 rfl) (qX5_signHere_1 1 15 rfl)
theorem dX5_signHere_18 : decode cX5_signHere 18 = .ok (.aload_n 0, 1) := @dq_o42 cX5_signHere 18 (qX5_signHere_1 2 42 rfl)
theorem dX5_signHere_19 : decode cX5_signHere 19 = .ok (.getfield 29, 3) := @dq_o180 cX5_signHere 19 0 29 (qX5_signHere_1 3 180 rfl) (qX5_signHere_1 4 0 rfl) (qX5_signHere_1 5 29 rfl)
theorem dX5_signHere_22 : decode cX5_signHere 22 = .ok (.aload_n 0, 1) := @dq_o42 cX5_signHere 22 (qX5_signHere_1 6 42 rfl)
theorem dX5_signHere_23 : decode cX5_signHere 23 = .ok (.getfield 36, 3) := @dq_o180 cX5_signHere 23 0 36 (qX5_signHere_1 7 180 rfl) (qX5_signHere_1 8 0 rfl) (qX5_signHere_1 9 36 rfl)
theorem dX5_signHere_26 : decode cX5_signHere 26 = .ok (.iaload, 1) := @dq_o46 cX5_signHere 26 (qX5_signHere_1 10 46 rfl)
theorem dX5_signHere_27 : decode cX5_signHere 27 = .ok (.goto 4, 3) := @dq_o167 cX5_signHere 27 0 4 (qX5_signHere_1 11 167 rfl) (qX5_signHere_1 12 0 rfl) (qX5_signHere_1 13 4 rfl)
theorem dX5_signHere_30 : decode cX5_signHere 30 = .ok (.iconst (-1), 1) := @dq_o2 cX5_signHere 30 (qX5_signHere_1 14 2 rfl)
theorem dX5_signHere_31 : decode cX5_signHere 31 = .ok (.ireturn, 1) := @dq_o172 cX5_signHere 31 (qX5_signHere_1 15 172 rfl)
abbrev qaX5_skipBlanks_0 : List Nat := [3, 60, 27, 17, 0, 200, 162, 0, 28, 42, 182, 0, 73, 16, 32, 160]
abbrev qaX5_skipBlanks_1 : List Nat := [0, 19, 42, 89, 180, 0, 36, 4, 96, 181, 0, 36, 132, 1, 1, 167]
abbrev qaX5_skipBlanks_2 : List Nat := [255, 227, 42, 182, 0, 73, 172]
def qtX5_skipBlanks_3 : List Nat := []
def qtX5_skipBlanks_2 : List Nat := qaX5_skipBlanks_2 ++ qtX5_skipBlanks_3
def qtX5_skipBlanks_1 : List Nat := qaX5_skipBlanks_1 ++ qtX5_skipBlanks_2
def qtX5_skipBlanks_0 : List Nat := qaX5_skipBlanks_0 ++ qtX5_skipBlanks_1
theorem qeX5_skipBlanks : cX5_skipBlanks.data.toList.map UInt8.toNat = qtX5_skipBlanks_0 := by decide +kernel
theorem qsX5_skipBlanks_0 : ∀ i, dqNth qtX5_skipBlanks_0 (0 + i) = dqNth qtX5_skipBlanks_0 i := fun i => by rw [Nat.zero_add]
theorem qsX5_skipBlanks_1 : ∀ i, dqNth qtX5_skipBlanks_0 (16 + i) = dqNth qtX5_skipBlanks_1 i := dq_step qsX5_skipBlanks_0 rfl rfl
theorem qsX5_skipBlanks_2 : ∀ i, dqNth qtX5_skipBlanks_0 (32 + i) = dqNth qtX5_skipBlanks_2 i := dq_step qsX5_skipBlanks_1 rfl rfl
theorem qX5_skipBlanks_0 (i b : Nat) (h : dqNth qaX5_skipBlanks_0 i = some b) : DqBy cX5_skipBlanks (0 + i) b := dqBy_of qeX5_skipBlanks ((qsX5_skipBlanks_0 i).trans (dq_in h))
theorem qX5_skipBlanks_1 (i b : Nat) (h : dqNth qaX5_skipBlanks_1 i = some b) : DqBy cX5_skipBlanks (16 + i) b := dqBy_of qeX5_skipBlanks ((qsX5_skipBlanks_1 i).trans (dq_in h))
theorem qX5_skipBlanks_2 (i b : Nat) (h : dqNth qaX5_skipBlanks_2 i = some b) : DqBy cX5_skipBlanks (32 + i) b := dqBy_of qeX5_skipBlanks ((qsX5_skipBlanks_2 i).trans (dq_in h))
theorem dX5_skipBlanks_0 : decode cX5_skipBlanks 0 = .ok (.iconst 0, 1) := @dq_o3 cX5_skipBlanks 0 (qX5_skipBlanks_0 0 3 rfl)
theorem dX5_skipBlanks_1 : decode cX5_skipBlanks 1 = .ok (.istore_n 1, 1) := @dq_o60 cX5_skipBlanks 1 (qX5_skipBlanks_0 1 60 rfl)
theorem dX5_skipBlanks_2 : decode cX5_skipBlanks 2 = .ok (.iload_n 1, 1) := @dq_o27 cX5_skipBlanks 2 (qX5_skipBlanks_0 2 27 rfl)
theorem dX5_skipBlanks_3 : decode cX5_skipBlanks 3 = .ok (.sipush 200, 3) := @dq_o17 cX5_skipBlanks 3 0 200 (qX5_skipBlanks_0 3 17 rfl) (qX5_skipBlanks_0 4 0 rfl) (qX5_skipBlanks_0 5 200 rfl)
theorem dX5_skipBlanks_6 : decode cX5_skipBlanks 6 = .ok (.if_icmp .ge 28, 3) := @dq_o162 cX5_skipBlanks 6 0 28 (qX5_skipBlanks_0 6 162 rfl) (qX5_skipBlanks_0 7 0 rfl) (qX5_skipBlanks_0 8 28 rfl)
theorem dX5_skipBlanks_9 : decode cX5_skipBlanks 9 = .ok (.aload_n 0, 1) := @dq_o42 cX5_skipBlanks 9 (qX5_skipBlanks_0 9 42 rfl)
theorem dX5_skipBlanks_10 : decode cX5_skipBlanks 10 = .ok (.invokevirtual 73, 3) := @dq_o182 cX5_skipBlanks 10 0 73 (qX5_skipBlanks_0 10 182 rfl) (qX5_skipBlanks_0 11 0 rfl) (qX5_skipBlanks_0 12 73 rfl)
theorem dX5_skipBlanks_13 : decode cX5_skipBlanks 13 = .ok (.bipush 32, 2) := @dq_o16 cX5_skipBlanks 13 32 (qX5_skipBlanks_0 13 16 rfl) (qX5_skipBlanks_0 14 32 rfl)
theorem dX5_skipBlanks_15 : decode cX5_skipBlanks 15 = .ok (.if_icmp .ne 19, 3) := @dq_o160 cX5_skipBlanks 15 0 19 (qX5_skipBlanks_0 15 160 rfl) (qX5_skipBlanks_1 0 0 rfl) (qX5_skipBlanks_1 1 19 rfl)
theorem dX5_skipBlanks_18 : decode cX5_skipBlanks 18 = .ok (.aload_n 0, 1) := @dq_o42 cX5_skipBlanks 18 (qX5_skipBlanks_1 2 42 rfl)
theorem dX5_skipBlanks_19 : decode cX5_skipBlanks 19 = .ok (.dup, 1) := @dq_o89 cX5_skipBlanks 19 (qX5_skipBlanks_1 3 89 rfl)
theorem dX5_skipBlanks_20 : decode cX5_skipBlanks 20 = .ok (.getfield 36, 3) := @dq_o180 cX5_skipBlanks 20 0 36 (qX5_skipBlanks_1 4 180 rfl) (qX5_skipBlanks_1 5 0 rfl) (qX5_skipBlanks_1 6 36 rfl)
theorem dX5_skipBlanks_23 : decode cX5_skipBlanks 23 = .ok (.iconst 1, 1) := @dq_o4 cX5_skipBlanks 23 (qX5_skipBlanks_1 7 4 rfl)
theorem dX5_skipBlanks_24 : decode cX5_skipBlanks 24 = .ok (.iadd, 1) := @dq_o96 cX5_skipBlanks 24 (qX5_skipBlanks_1 8 96 rfl)
theorem dX5_skipBlanks_25 : decode cX5_skipBlanks 25 = .ok (.putfield 36, 3) := @dq_o181 cX5_skipBlanks 25 0 36 (qX5_skipBlanks_1 9 181 rfl) (qX5_skipBlanks_1 10 0 rfl) (qX5_skipBlanks_1 11 36 rfl)
theorem dX5_skipBlanks_28 : decode cX5_skipBlanks 28 = .ok (.iinc 1 1, 3) := @dq_o132 cX5_skipBlanks 28 1 1 (qX5_skipBlanks_1 12 132 rfl) (qX5_skipBlanks_1 13 1 rfl) (qX5_skipBlanks_1 14 1 rfl)
theorem dX5_skipBlanks_31 : decode cX5_skipBlanks 31 = .ok (.goto (-29), 3) := @dq_o167 cX5_skipBlanks 31 255 227 (qX5_skipBlanks_1 15 167 rfl) (qX5_skipBlanks_2 0 255 rfl) (qX5_skipBlanks_2 1 227 rfl)
theorem dX5_skipBlanks_34 : decode cX5_skipBlanks 34 = .ok (.aload_n 0, 1) := @dq_o42 cX5_skipBlanks 34 (qX5_skipBlanks_2 2 42 rfl)
theorem dX5_skipBlanks_35 : decode cX5_skipBlanks 35 = .ok (.invokevirtual 73, 3) := @dq_o182 cX5_skipBlanks 35 0 73 (qX5_skipBlanks_2 3 182 rfl) (qX5_skipBlanks_2 4 0 rfl) (qX5_skipBlanks_2 5 73 rfl)
theorem dX5_skipBlanks_38 : decode cX5_skipBlanks 38 = .ok (.ireturn, 1) := @dq_o172 cX5_skipBlanks 38 (qX5_skipBlanks_2 6 172 rfl)
abbrev qaX5_isDigit_0 : List Nat := [26, 16, 48, 161, 0, 13, 26, 16, 57, 163, 0, 7, 4, 167, 0, 4]
abbrev qaX5_isDigit_1 : List Nat := [3, 172]
def qtX5_isDigit_2 : List Nat := []
def qtX5_isDigit_1 : List Nat := qaX5_isDigit_1 ++ qtX5_isDigit_2
def qtX5_isDigit_0 : List Nat := qaX5_isDigit_0 ++ qtX5_isDigit_1
theorem qeX5_isDigit : cX5_isDigit.data.toList.map UInt8.toNat = qtX5_isDigit_0 := by decide +kernel
theorem qsX5_isDigit_0 : ∀ i, dqNth qtX5_isDigit_0 (0 + i) = dqNth qtX5_isDigit_0 i := fun i => by rw [Nat.zero_add]
theorem qsX5_isDigit_1 : ∀ i, dqNth qtX5_isDigit_0 (16 + i) = dqNth qtX5_isDigit_1 i := dq_step qsX5_isDigit_0 rfl rfl
theorem qX5_isDigit_0 (i b : Nat) (h : dqNth qaX5_isDigit_0 i = some b) : DqBy cX5_isDigit (0 + i) b := dqBy_of qeX5_isDigit ((qsX5_isDigit_0 i).trans (dq_in h))
theorem qX5_isDigit_1 (i b : Nat) (h : dqNth qaX5_isDigit_1 i = some b) : DqBy cX5_isDigit (16 + i) b := dqBy_of qeX5_isDigit ((qsX5_isDigit_1 i).trans (dq_in h))
theorem dX5_isDigit_0 : decode cX5_isDigit 0 = .ok (.iload_n 0, 1) := @dq_o26 cX5_isDigit 0 (qX5_isDigit_0 0 26 rfl)
theorem dX5_isDigit_1 : decode cX5_isDigit 1 = .ok (.bipush 48, 2) := @dq_o16 cX5_isDigit 1 48 (qX5_isDigit_0 1 16 rfl) (qX5_isDigit_0 2 48 rfl)
theorem dX5_isDigit_3 : decode cX5_isDigit 3 = .ok (.if_icmp .lt 13, 3) := @dq_o161 cX5_isDigit 3 0 13 (qX5_isDigit_0 3 161 rfl) (qX5_isDigit_0 4 0 rfl) (qX5_isDigit_0 5 13 rfl)
theorem dX5_isDigit_6 : decode cX5_isDigit 6 = .ok (.iload_n 0, 1) := @dq_o26 cX5_isDigit 6 (qX5_isDigit_0 6 26 rfl)
theorem dX5_isDigit_7 : decode cX5_isDigit 7 = .ok (.bipush 57, 2) := @dq_o16 cX5_isDigit 7 57 (qX5_isDigit_0 7 16 rfl) (qX5_isDigit_0 8 57 rfl)
theorem dX5_isDigit_9 : decode cX5_isDigit 9 = .ok (.if_icmp .gt 7, 3) := @dq_o163 cX5_isDigit 9 0 7 (qX5_isDigit_0 9 163 rfl) (qX5_isDigit_0 10 0 rfl) (qX5_isDigit_0 11 7 rfl)
theorem dX5_isDigit_12 : decode cX5_isDigit 12 = .ok (.iconst 1, 1) := @dq_o4 cX5_isDigit 12 (qX5_isDigit_0 12 4 rfl)
theorem dX5_isDigit_13 : decode cX5_isDigit 13 = .ok (.goto 4, 3) := @dq_o167 cX5_isDigit 13 0 4 (qX5_isDigit_0 13 167 rfl) (qX5_isDigit_0 14 0 rfl) (qX5_isDigit_0 15 4 rfl)
theorem dX5_isDigit_16 : decode cX5_isDigit 16 = .ok (.iconst 0, 1) := @dq_o3 cX5_isDigit 16 (qX5_isDigit_1 0 3 rfl)
theorem dX5_isDigit_17 : decode cX5_isDigit 17 = .ok (.ireturn, 1) := @dq_o172 cX5_isDigit 17 (qX5_isDigit_1 1 172 rfl)
abbrev qaX5_beginsFactor_0 : List Nat := [26, 16, 97, 161, 0, 9, 26, 16, 102, 164, 0, 21, 26, 16, 82, 159]
abbrev qaX5_beginsFactor_1 : List Nat := [0, 15, 26, 16, 40, 159, 0, 9, 26, 16, 91, 160, 0, 7, 4, 167]
abbrev qaX5_beginsFactor_2 : List Nat := [0, 4, 3, 172]
def qtX5_beginsFactor_3 : List Nat := []
def qtX5_beginsFactor_2 : List Nat := qaX5_beginsFactor_2 ++ qtX5_beginsFactor_3
def qtX5_beginsFactor_1 : List Nat := qaX5_beginsFactor_1 ++ qtX5_beginsFactor_2
def qtX5_beginsFactor_0 : List Nat := qaX5_beginsFactor_0 ++ qtX5_beginsFactor_1
theorem qeX5_beginsFactor : cX5_beginsFactor.data.toList.map UInt8.toNat = qtX5_beginsFactor_0 := by decide +kernel
theorem qsX5_beginsFactor_0 : ∀ i, dqNth qtX5_beginsFactor_0 (0 + i) = dqNth qtX5_beginsFactor_0 i := fun i => by rw [Nat.zero_add]
theorem qsX5_beginsFactor_1 : ∀ i, dqNth qtX5_beginsFactor_0 (16 + i) = dqNth qtX5_beginsFactor_1 i := dq_step qsX5_beginsFactor_0 rfl rfl
theorem qsX5_beginsFactor_2 : ∀ i, dqNth qtX5_beginsFactor_0 (32 + i) = dqNth qtX5_beginsFactor_2 i := dq_step qsX5_beginsFactor_1 rfl rfl
theorem qX5_beginsFactor_0 (i b : Nat) (h : dqNth qaX5_beginsFactor_0 i = some b) : DqBy cX5_beginsFactor (0 + i) b := dqBy_of qeX5_beginsFactor ((qsX5_beginsFactor_0 i).trans (dq_in h))
theorem qX5_beginsFactor_1 (i b : Nat) (h : dqNth qaX5_beginsFactor_1 i = some b) : DqBy cX5_beginsFactor (16 + i) b := dqBy_of qeX5_beginsFactor ((qsX5_beginsFactor_1 i).trans (dq_in h))
theorem qX5_beginsFactor_2 (i b : Nat) (h : dqNth qaX5_beginsFactor_2 i = some b) : DqBy cX5_beginsFactor (32 + i) b := dqBy_of qeX5_beginsFactor ((qsX5_beginsFactor_2 i).trans (dq_in h))
theorem dX5_beginsFactor_0 : decode cX5_beginsFactor 0 = .ok (.iload_n 0, 1) := @dq_o26 cX5_beginsFactor 0 (qX5_beginsFactor_0 0 26 rfl)
theorem dX5_beginsFactor_1 : decode cX5_beginsFactor 1 = .ok (.bipush 97, 2) := @dq_o16 cX5_beginsFactor 1 97 (qX5_beginsFactor_0 1 16 rfl) (qX5_beginsFactor_0 2 97 rfl)
theorem dX5_beginsFactor_3 : decode cX5_beginsFactor 3 = .ok (.if_icmp .lt 9, 3) := @dq_o161 cX5_beginsFactor 3 0 9 (qX5_beginsFactor_0 3 161 rfl) (qX5_beginsFactor_0 4 0 rfl) (qX5_beginsFactor_0 5 9 rfl)
theorem dX5_beginsFactor_6 : decode cX5_beginsFactor 6 = .ok (.iload_n 0, 1) := @dq_o26 cX5_beginsFactor 6 (qX5_beginsFactor_0 6 26 rfl)
theorem dX5_beginsFactor_7 : decode cX5_beginsFactor 7 = .ok (.bipush 102, 2) := @dq_o16 cX5_beginsFactor 7 102 (qX5_beginsFactor_0 7 16 rfl) (qX5_beginsFactor_0 8 102 rfl)
theorem dX5_beginsFactor_9 : decode cX5_beginsFactor 9 = .ok (.if_icmp .le 21, 3) := @dq_o164 cX5_beginsFactor 9 0 21 (qX5_beginsFactor_0 9 164 rfl) (qX5_beginsFactor_0 10 0 rfl) (qX5_beginsFactor_0 11 21 rfl)
theorem dX5_beginsFactor_12 : decode cX5_beginsFactor 12 = .ok (.iload_n 0, 1) := @dq_o26 cX5_beginsFactor 12 (qX5_beginsFactor_0 12 26 rfl)
theorem dX5_beginsFactor_13 : decode cX5_beginsFactor 13 = .ok (.bipush 82, 2) := @dq_o16 cX5_beginsFactor 13 82 (qX5_beginsFactor_0 13 16 rfl) (qX5_beginsFactor_0 14 82 rfl)
theorem dX5_beginsFactor_15 : decode cX5_beginsFactor 15 = .ok (.if_icmp .eq 15, 3) := @dq_o159 cX5_beginsFactor 15 0 15 (qX5_beginsFactor_0 15 159 rfl) (qX5_beginsFactor_1 0 0 rfl) (qX5_beginsFactor_1 1 15 rfl)
theorem dX5_beginsFactor_18 : decode cX5_beginsFactor 18 = .ok (.iload_n 0, 1) := @dq_o26 cX5_beginsFactor 18 (qX5_beginsFactor_1 2 26 rfl)
theorem dX5_beginsFactor_19 : decode cX5_beginsFactor 19 = .ok (.bipush 40, 2) := @dq_o16 cX5_beginsFactor 19 40 (qX5_beginsFactor_1 3 16 rfl) (qX5_beginsFactor_1 4 40 rfl)
theorem dX5_beginsFactor_21 : decode cX5_beginsFactor 21 = .ok (.if_icmp .eq 9, 3) := @dq_o159 cX5_beginsFactor 21 0 9 (qX5_beginsFactor_1 5 159 rfl) (qX5_beginsFactor_1 6 0 rfl) (qX5_beginsFactor_1 7 9 rfl)
theorem dX5_beginsFactor_24 : decode cX5_beginsFactor 24 = .ok (.iload_n 0, 1) := @dq_o26 cX5_beginsFactor 24 (qX5_beginsFactor_1 8 26 rfl)
theorem dX5_beginsFactor_25 : decode cX5_beginsFactor 25 = .ok (.bipush 91, 2) := @dq_o16 cX5_beginsFactor 25 91 (qX5_beginsFactor_1 9 16 rfl) (qX5_beginsFactor_1 10 91 rfl)
theorem dX5_beginsFactor_27 : decode cX5_beginsFactor 27 = .ok (.if_icmp .ne 7, 3) := @dq_o160 cX5_beginsFactor 27 0 7 (qX5_beginsFactor_1 11 160 rfl) (qX5_beginsFactor_1 12 0 rfl) (qX5_beginsFactor_1 13 7 rfl)
theorem dX5_beginsFactor_30 : decode cX5_beginsFactor 30 = .ok (.iconst 1, 1) := @dq_o4 cX5_beginsFactor 30 (qX5_beginsFactor_1 14 4 rfl)
theorem dX5_beginsFactor_31 : decode cX5_beginsFactor 31 = .ok (.goto 4, 3) := @dq_o167 cX5_beginsFactor 31 0 4 (qX5_beginsFactor_1 15 167 rfl) (qX5_beginsFactor_2 0 0 rfl) (qX5_beginsFactor_2 1 4 rfl)
theorem dX5_beginsFactor_34 : decode cX5_beginsFactor 34 = .ok (.iconst 0, 1) := @dq_o3 cX5_beginsFactor 34 (qX5_beginsFactor_2 2 3 rfl)
theorem dX5_beginsFactor_35 : decode cX5_beginsFactor 35 = .ok (.ireturn, 1) := @dq_o172 cX5_beginsFactor 35 (qX5_beginsFactor_2 3 172 rfl)
abbrev qaX5_readWord_0 : List Nat := [27, 155, 0, 9, 27, 16, 8, 164, 0, 5, 3, 172, 42, 180, 0, 20]
abbrev qaX5_readWord_1 : List Nat := [27, 50, 77, 44, 9, 184, 0, 77, 3, 62, 29, 17, 0, 200, 162, 0]
abbrev qaX5_readWord_2 : List Nat := [77, 42, 182, 0, 83, 184, 0, 86, 153, 0, 67, 42, 27, 182, 0, 89]
abbrev qaX5_readWord_3 : List Nat := [153, 0, 16, 42, 42, 180, 0, 23, 27, 50, 182, 0, 92, 154, 0, 5]
abbrev qaX5_readWord_4 : List Nat := [3, 172, 42, 180, 0, 46, 44, 44, 42, 180, 0, 23, 27, 50, 182, 0]
abbrev qaX5_readWord_5 : List Nat := [96, 44, 20, 0, 102, 184, 0, 104, 154, 0, 13, 42, 8, 42, 180, 0]
abbrev qaX5_readWord_6 : List Nat := [39, 182, 0, 69, 172, 132, 3, 1, 167, 255, 178, 4, 172]
def qtX5_readWord_7 : List Nat := []
def qtX5_readWord_6 : List Nat := qaX5_readWord_6 ++ qtX5_readWord_7
def qtX5_readWord_5 : List Nat := qaX5_readWord_5 ++ qtX5_readWord_6
def qtX5_readWord_4 : List Nat := qaX5_readWord_4 ++ qtX5_readWord_5
def qtX5_readWord_3 : List Nat := qaX5_readWord_3 ++ qtX5_readWord_4
def qtX5_readWord_2 : List Nat := qaX5_readWord_2 ++ qtX5_readWord_3
def qtX5_readWord_1 : List Nat := qaX5_readWord_1 ++ qtX5_readWord_2
def qtX5_readWord_0 : List Nat := qaX5_readWord_0 ++ qtX5_readWord_1
theorem qeX5_readWord : cX5_readWord.data.toList.map UInt8.toNat = qtX5_readWord_0 := by decide +kernel
theorem qsX5_readWord_0 : ∀ i, dqNth qtX5_readWord_0 (0 + i) = dqNth qtX5_readWord_0 i := fun i => by rw [Nat.zero_add]
theorem qsX5_readWord_1 : ∀ i, dqNth qtX5_readWord_0 (16 + i) = dqNth qtX5_readWord_1 i := dq_step qsX5_readWord_0 rfl rfl
theorem qsX5_readWord_2 : ∀ i, dqNth qtX5_readWord_0 (32 + i) = dqNth qtX5_readWord_2 i := dq_step qsX5_readWord_1 rfl rfl
theorem qsX5_readWord_3 : ∀ i, dqNth qtX5_readWord_0 (48 + i) = dqNth qtX5_readWord_3 i := dq_step qsX5_readWord_2 rfl rfl
theorem qsX5_readWord_4 : ∀ i, dqNth qtX5_readWord_0 (64 + i) = dqNth qtX5_readWord_4 i := dq_step qsX5_readWord_3 rfl rfl
theorem qsX5_readWord_5 : ∀ i, dqNth qtX5_readWord_0 (80 + i) = dqNth qtX5_readWord_5 i := dq_step qsX5_readWord_4 rfl rfl
theorem qsX5_readWord_6 : ∀ i, dqNth qtX5_readWord_0 (96 + i) = dqNth qtX5_readWord_6 i := dq_step qsX5_readWord_5 rfl rfl
theorem qX5_readWord_0 (i b : Nat) (h : dqNth qaX5_readWord_0 i = some b) : DqBy cX5_readWord (0 + i) b := dqBy_of qeX5_readWord ((qsX5_readWord_0 i).trans (dq_in h))
theorem qX5_readWord_1 (i b : Nat) (h : dqNth qaX5_readWord_1 i = some b) : DqBy cX5_readWord (16 + i) b := dqBy_of qeX5_readWord ((qsX5_readWord_1 i).trans (dq_in h))
theorem qX5_readWord_2 (i b : Nat) (h : dqNth qaX5_readWord_2 i = some b) : DqBy cX5_readWord (32 + i) b := dqBy_of qeX5_readWord ((qsX5_readWord_2 i).trans (dq_in h))
theorem qX5_readWord_3 (i b : Nat) (h : dqNth qaX5_readWord_3 i = some b) : DqBy cX5_readWord (48 + i) b := dqBy_of qeX5_readWord ((qsX5_readWord_3 i).trans (dq_in h))
theorem qX5_readWord_4 (i b : Nat) (h : dqNth qaX5_readWord_4 i = some b) : DqBy cX5_readWord (64 + i) b := dqBy_of qeX5_readWord ((qsX5_readWord_4 i).trans (dq_in h))
theorem qX5_readWord_5 (i b : Nat) (h : dqNth qaX5_readWord_5 i = some b) : DqBy cX5_readWord (80 + i) b := dqBy_of qeX5_readWord ((qsX5_readWord_5 i).trans (dq_in h))
theorem qX5_readWord_6 (i b : Nat) (h : dqNth qaX5_readWord_6 i = some b) : DqBy cX5_readWord (96 + i) b := dqBy_of qeX5_readWord ((qsX5_readWord_6 i).trans (dq_in h))
theorem dX5_readWord_0 : decode cX5_readWord 0 = .ok (.iload_n 1, 1) := @dq_o27 cX5_readWord 0 (qX5_readWord_0 0 27 rfl)
theorem dX5_readWord_1 : decode cX5_readWord 1 = .ok (.ifCond .lt 9, 3) := @dq_o155 cX5_readWord 1 0 9 (qX5_readWord_0 1 155 rfl) (qX5_readWord_0 2 0 rfl) (qX5_readWord_0 3 9 rfl)
theorem dX5_readWord_4 : decode cX5_readWord 4 = .ok (.iload_n 1, 1) := @dq_o27 cX5_readWord 4 (qX5_readWord_0 4 27 rfl)
theorem dX5_readWord_5 : decode cX5_readWord 5 = .ok (.bipush 8, 2) := @dq_o16 cX5_readWord 5 8 (qX5_readWord_0 5 16 rfl) (qX5_readWord_0 6 8 rfl)
theorem dX5_readWord_7 : decode cX5_readWord 7 = .ok (.if_icmp .le 5, 3) := @dq_o164 cX5_readWord 7 0 5 (qX5_readWord_0 7 164 rfl) (qX5_readWord_0 8 0 rfl) (qX5_readWord_0 9 5 rfl)
theorem dX5_readWord_10 : decode cX5_readWord 10 = .ok (.iconst 0, 1) := @dq_o3 cX5_readWord 10 (qX5_readWord_0 10 3 rfl)
theorem dX5_readWord_11 : decode cX5_readWord 11 = .ok (.ireturn, 1) := @dq_o172 cX5_readWord 11 (qX5_readWord_0 11 172 rfl)
theorem dX5_readWord_12 : decode cX5_readWord 12 = .ok (.aload_n 0, 1) := @dq_o42 cX5_readWord 12 (qX5_readWord_0 12 42 rfl)
theorem dX5_readWord_13 : decode cX5_readWord 13 = .ok (.getfield 20, 3) := @dq_o180 cX5_readWord 13 0 20 (qX5_readWord_0 13 180 rfl) (qX5_readWord_0 14 0 rfl) (qX5_readWord_0 15 20 rfl)
theorem dX5_readWord_16 : decode cX5_readWord 16 = .ok (.iload_n 1, 1) := @dq_o27 cX5_readWord 16 (qX5_readWord_1 0 27 rfl)
theorem dX5_readWord_17 : decode cX5_readWord 17 = .ok (.aaload, 1) := @dq_o50 cX5_readWord 17 (qX5_readWord_1 1 50 rfl)
theorem dX5_readWord_18 : decode cX5_readWord 18 = .ok (.astore_n 2, 1) := @dq_o77 cX5_readWord 18 (qX5_readWord_1 2 77 rfl)
theorem dX5_readWord_19 : decode cX5_readWord 19 = .ok (.aload_n 2, 1) := @dq_o44 cX5_readWord 19 (qX5_readWord_1 3 44 rfl)
theorem dX5_readWord_20 : decode cX5_readWord 20 = .ok (.lconst 0, 1) := @dq_o9 cX5_readWord 20 (qX5_readWord_1 4 9 rfl)
theorem dX5_readWord_21 : decode cX5_readWord 21 = .ok (.invokestatic 77, 3) := @dq_o184 cX5_readWord 21 0 77 (qX5_readWord_1 5 184 rfl) (qX5_readWord_1 6 0 rfl) (qX5_readWord_1 7 77 rfl)
theorem dX5_readWord_24 : decode cX5_readWord 24 = .ok (.iconst 0, 1) := @dq_o3 cX5_readWord 24 (qX5_readWord_1 8 3 rfl)
theorem dX5_readWord_25 : decode cX5_readWord 25 = .ok (.istore_n 3, 1) := @dq_o62 cX5_readWord 25 (qX5_readWord_1 9 62 rfl)
theorem dX5_readWord_26 : decode cX5_readWord 26 = .ok (.iload_n 3, 1) := @dq_o29 cX5_readWord 26 (qX5_readWord_1 10 29 rfl)
theorem dX5_readWord_27 : decode cX5_readWord 27 = .ok (.sipush 200, 3) := @dq_o17 cX5_readWord 27 0 200 (qX5_readWord_1 11 17 rfl) (qX5_readWord_1 12 0 rfl) (qX5_readWord_1 13 200 rfl)
theorem dX5_readWord_30 : decode cX5_readWord 30 = .ok (.if_icmp .ge 77, 3) := @dq_o162 cX5_readWord 30 0 77 (qX5_readWord_1 14 162 rfl) (qX5_readWord_1 15 0 rfl) (qX5_readWord_2 0 77 rfl)
theorem dX5_readWord_33 : decode cX5_readWord 33 = .ok (.aload_n 0, 1) := @dq_o42 cX5_readWord 33 (qX5_readWord_2 1 42 rfl)
theorem dX5_readWord_34 : decode cX5_readWord 34 = .ok (.invokevirtual 83, 3) := @dq_o182 cX5_readWord 34 0 83 (qX5_readWord_2 2 182 rfl) (qX5_readWord_2 3 0 rfl) (qX5_readWord_2 4 83 rfl)
theorem dX5_readWord_37 : decode cX5_readWord 37 = .ok (.invokestatic 86, 3) := @dq_o184 cX5_readWord 37 0 86 (qX5_readWord_2 5 184 rfl) (qX5_readWord_2 6 0 rfl) (qX5_readWord_2 7 86 rfl)
theorem dX5_readWord_40 : decode cX5_readWord 40 = .ok (.ifCond .eq 67, 3) := @dq_o153 cX5_readWord 40 0 67 (qX5_readWord_2 8 153 rfl) (qX5_readWord_2 9 0 rfl) (qX5_readWord_2 10 67 rfl)
theorem dX5_readWord_43 : decode cX5_readWord 43 = .ok (.aload_n 0, 1) := @dq_o42 cX5_readWord 43 (qX5_readWord_2 11 42 rfl)
theorem dX5_readWord_44 : decode cX5_readWord 44 = .ok (.iload_n 1, 1) := @dq_o27 cX5_readWord 44 (qX5_readWord_2 12 27 rfl)
theorem dX5_readWord_45 : decode cX5_readWord 45 = .ok (.invokevirtual 89, 3) := @dq_o182 cX5_readWord 45 0 89 (qX5_readWord_2 13 182 rfl) (qX5_readWord_2 14 0 rfl) (qX5_readWord_2 15 89 rfl)
theorem dX5_readWord_48 : decode cX5_readWord 48 = .ok (.ifCond .eq 16, 3) := @dq_o153 cX5_readWord 48 0 16 (qX5_readWord_3 0 153 rfl) (qX5_readWord_3 1 0 rfl) (qX5_readWord_3 2 16 rfl)
theorem dX5_readWord_51 : decode cX5_readWord 51 = .ok (.aload_n 0, 1) := @dq_o42 cX5_readWord 51 (qX5_readWord_3 3 42 rfl)
theorem dX5_readWord_52 : decode cX5_readWord 52 = .ok (.aload_n 0, 1) := @dq_o42 cX5_readWord 52 (qX5_readWord_3 4 42 rfl)
theorem dX5_readWord_53 : decode cX5_readWord 53 = .ok (.getfield 23, 3) := @dq_o180 cX5_readWord 53 0 23 (qX5_readWord_3 5 180 rfl) (qX5_readWord_3 6 0 rfl) (qX5_readWord_3 7 23 rfl)
theorem dX5_readWord_56 : decode cX5_readWord 56 = .ok (.iload_n 1, 1) := @dq_o27 cX5_readWord 56 (qX5_readWord_3 8 27 rfl)
theorem dX5_readWord_57 : decode cX5_readWord 57 = .ok (.aaload, 1) := @dq_o50 cX5_readWord 57 (qX5_readWord_3 9 50 rfl)
theorem dX5_readWord_58 : decode cX5_readWord 58 = .ok (.invokevirtual 92, 3) := @dq_o182 cX5_readWord 58 0 92 (qX5_readWord_3 10 182 rfl) (qX5_readWord_3 11 0 rfl) (qX5_readWord_3 12 92 rfl)
theorem dX5_readWord_61 : decode cX5_readWord 61 = .ok (.ifCond .ne 5, 3) := @dq_o154 cX5_readWord 61 0 5 (qX5_readWord_3 13 154 rfl) (qX5_readWord_3 14 0 rfl) (qX5_readWord_3 15 5 rfl)
theorem dX5_readWord_64 : decode cX5_readWord 64 = .ok (.iconst 0, 1) := @dq_o3 cX5_readWord 64 (qX5_readWord_4 0 3 rfl)
theorem dX5_readWord_65 : decode cX5_readWord 65 = .ok (.ireturn, 1) := @dq_o172 cX5_readWord 65 (qX5_readWord_4 1 172 rfl)
theorem dX5_readWord_66 : decode cX5_readWord 66 = .ok (.aload_n 0, 1) := @dq_o42 cX5_readWord 66 (qX5_readWord_4 2 42 rfl)
theorem dX5_readWord_67 : decode cX5_readWord 67 = .ok (.getfield 46, 3) := @dq_o180 cX5_readWord 67 0 46 (qX5_readWord_4 3 180 rfl) (qX5_readWord_4 4 0 rfl) (qX5_readWord_4 5 46 rfl)
theorem dX5_readWord_70 : decode cX5_readWord 70 = .ok (.aload_n 2, 1) := @dq_o44 cX5_readWord 70 (qX5_readWord_4 6 44 rfl)
theorem dX5_readWord_71 : decode cX5_readWord 71 = .ok (.aload_n 2, 1) := @dq_o44 cX5_readWord 71 (qX5_readWord_4 7 44 rfl)
theorem dX5_readWord_72 : decode cX5_readWord 72 = .ok (.aload_n 0, 1) := @dq_o42 cX5_readWord 72 (qX5_readWord_4 8 42 rfl)
theorem dX5_readWord_73 : decode cX5_readWord 73 = .ok (.getfield 23, 3) := @dq_o180 cX5_readWord 73 0 23 (qX5_readWord_4 9 180 rfl) (qX5_readWord_4 10 0 rfl) (qX5_readWord_4 11 23 rfl)
theorem dX5_readWord_76 : decode cX5_readWord 76 = .ok (.iload_n 1, 1) := @dq_o27 cX5_readWord 76 (qX5_readWord_4 12 27 rfl)
theorem dX5_readWord_77 : decode cX5_readWord 77 = .ok (.aaload, 1) := @dq_o50 cX5_readWord 77 (qX5_readWord_4 13 50 rfl)
theorem dX5_readWord_78 : decode cX5_readWord 78 = .ok (.invokevirtual 96, 3) := @dq_o182 cX5_readWord 78 0 96 (qX5_readWord_4 14 182 rfl) (qX5_readWord_4 15 0 rfl) (qX5_readWord_5 0 96 rfl)
theorem dX5_readWord_81 : decode cX5_readWord 81 = .ok (.aload_n 2, 1) := @dq_o44 cX5_readWord 81 (qX5_readWord_5 1 44 rfl)
theorem dX5_readWord_82 : decode cX5_readWord 82 = .ok (.ldc2_w 102, 3) := @dq_o20 cX5_readWord 82 0 102 (qX5_readWord_5 2 20 rfl) (qX5_readWord_5 3 0 rfl) (qX5_readWord_5 4 102 rfl)
theorem dX5_readWord_85 : decode cX5_readWord 85 = .ok (.invokestatic 104, 3) := @dq_o184 cX5_readWord 85 0 104 (qX5_readWord_5 5 184 rfl) (qX5_readWord_5 6 0 rfl) (qX5_readWord_5 7 104 rfl)
theorem dX5_readWord_88 : decode cX5_readWord 88 = .ok (.ifCond .ne 13, 3) := @dq_o154 cX5_readWord 88 0 13 (qX5_readWord_5 8 154 rfl) (qX5_readWord_5 9 0 rfl) (qX5_readWord_5 10 13 rfl)
theorem dX5_readWord_91 : decode cX5_readWord 91 = .ok (.aload_n 0, 1) := @dq_o42 cX5_readWord 91 (qX5_readWord_5 11 42 rfl)
theorem dX5_readWord_92 : decode cX5_readWord 92 = .ok (.iconst 5, 1) := @dq_o8 cX5_readWord 92 (qX5_readWord_5 12 8 rfl)
theorem dX5_readWord_93 : decode cX5_readWord 93 = .ok (.aload_n 0, 1) := @dq_o42 cX5_readWord 93 (qX5_readWord_5 13 42 rfl)
theorem dX5_readWord_94 : decode cX5_readWord 94 = .ok (.getfield 39, 3) := @dq_o180 cX5_readWord 94 0 39 (qX5_readWord_5 14 180 rfl) (qX5_readWord_5 15 0 rfl) (qX5_readWord_6 0 39 rfl)
theorem dX5_readWord_97 : decode cX5_readWord 97 = .ok (.invokevirtual 69, 3) := @dq_o182 cX5_readWord 97 0 69 (qX5_readWord_6 1 182 rfl) (qX5_readWord_6 2 0 rfl) (qX5_readWord_6 3 69 rfl)
theorem dX5_readWord_100 : decode cX5_readWord 100 = .ok (.ireturn, 1) := @dq_o172 cX5_readWord 100 (qX5_readWord_6 4 172 rfl)
theorem dX5_readWord_101 : decode cX5_readWord 101 = .ok (.iinc 3 1, 3) := @dq_o132 cX5_readWord 101 3 1 (qX5_readWord_6 5 132 rfl) (qX5_readWord_6 6 3 rfl) (qX5_readWord_6 7 1 rfl)
theorem dX5_readWord_104 : decode cX5_readWord 104 = .ok (.goto (-78), 3) := @dq_o167 cX5_readWord 104 255 178 (qX5_readWord_6 8 167 rfl) (qX5_readWord_6 9 255 rfl) (qX5_readWord_6 10 178 rfl)
theorem dX5_readWord_107 : decode cX5_readWord 107 = .ok (.iconst 1, 1) := @dq_o4 cX5_readWord 107 (qX5_readWord_6 11 4 rfl)
theorem dX5_readWord_108 : decode cX5_readWord 108 = .ok (.ireturn, 1) := @dq_o172 cX5_readWord 108 (qX5_readWord_6 12 172 rfl)
abbrev qaX5_readFactor_0 : List Nat := [42, 182, 0, 73, 61, 28, 16, 82, 160, 0, 14, 42, 42, 180, 0, 23]
abbrev qaX5_readFactor_1 : List Nat := [27, 50, 182, 0, 108, 172, 28, 16, 40, 159, 0, 24, 28, 16, 91, 159]
abbrev qaX5_readFactor_2 : List Nat := [0, 18, 42, 28, 16, 97, 100, 42, 180, 0, 23, 27, 50, 182, 0, 111]
abbrev qaX5_readFactor_3 : List Nat := [172, 27, 16, 8, 161, 0, 13, 42, 7, 42, 180, 0, 36, 182, 0, 69]
abbrev qaX5_readFactor_4 : List Nat := [172, 42, 89, 180, 0, 36, 4, 96, 181, 0, 36, 28, 16, 40, 160, 0]
abbrev qaX5_readFactor_5 : List Nat := [11, 42, 27, 182, 0, 115, 167, 0, 8, 42, 27, 182, 0, 118, 172]
def qtX5_readFactor_6 : List Nat := []
def qtX5_readFactor_5 : List Nat := qaX5_readFactor_5 ++ qtX5_readFactor_6
def qtX5_readFactor_4 : List Nat := qaX5_readFactor_4 ++ qtX5_readFactor_5
def qtX5_readFactor_3 : List Nat := qaX5_readFactor_3 ++ qtX5_readFactor_4
def qtX5_readFactor_2 : List Nat := qaX5_readFactor_2 ++ qtX5_readFactor_3
def qtX5_readFactor_1 : List Nat := qaX5_readFactor_1 ++ qtX5_readFactor_2
def qtX5_readFactor_0 : List Nat := qaX5_readFactor_0 ++ qtX5_readFactor_1
theorem qeX5_readFactor : cX5_readFactor.data.toList.map UInt8.toNat = qtX5_readFactor_0 := by decide +kernel
theorem qsX5_readFactor_0 : ∀ i, dqNth qtX5_readFactor_0 (0 + i) = dqNth qtX5_readFactor_0 i := fun i => by rw [Nat.zero_add]
theorem qsX5_readFactor_1 : ∀ i, dqNth qtX5_readFactor_0 (16 + i) = dqNth qtX5_readFactor_1 i := dq_step qsX5_readFactor_0 rfl rfl
theorem qsX5_readFactor_2 : ∀ i, dqNth qtX5_readFactor_0 (32 + i) = dqNth qtX5_readFactor_2 i := dq_step qsX5_readFactor_1 rfl rfl
theorem qsX5_readFactor_3 : ∀ i, dqNth qtX5_readFactor_0 (48 + i) = dqNth qtX5_readFactor_3 i := dq_step qsX5_readFactor_2 rfl rfl
theorem qsX5_readFactor_4 : ∀ i, dqNth qtX5_readFactor_0 (64 + i) = dqNth qtX5_readFactor_4 i := dq_step qsX5_readFactor_3 rfl rfl
theorem qsX5_readFactor_5 : ∀ i, dqNth qtX5_readFactor_0 (80 + i) = dqNth qtX5_readFactor_5 i := dq_step qsX5_readFactor_4 rfl rfl
theorem qX5_readFactor_0 (i b : Nat) (h : dqNth qaX5_readFactor_0 i = some b) : DqBy cX5_readFactor (0 + i) b := dqBy_of qeX5_readFactor ((qsX5_readFactor_0 i).trans (dq_in h))
theorem qX5_readFactor_1 (i b : Nat) (h : dqNth qaX5_readFactor_1 i = some b) : DqBy cX5_readFactor (16 + i) b := dqBy_of qeX5_readFactor ((qsX5_readFactor_1 i).trans (dq_in h))
theorem qX5_readFactor_2 (i b : Nat) (h : dqNth qaX5_readFactor_2 i = some b) : DqBy cX5_readFactor (32 + i) b := dqBy_of qeX5_readFactor ((qsX5_readFactor_2 i).trans (dq_in h))
theorem qX5_readFactor_3 (i b : Nat) (h : dqNth qaX5_readFactor_3 i = some b) : DqBy cX5_readFactor (48 + i) b := dqBy_of qeX5_readFactor ((qsX5_readFactor_3 i).trans (dq_in h))
theorem qX5_readFactor_4 (i b : Nat) (h : dqNth qaX5_readFactor_4 i = some b) : DqBy cX5_readFactor (64 + i) b := dqBy_of qeX5_readFactor ((qsX5_readFactor_4 i).trans (dq_in h))
theorem qX5_readFactor_5 (i b : Nat) (h : dqNth qaX5_readFactor_5 i = some b) : DqBy cX5_readFactor (80 + i) b := dqBy_of qeX5_readFactor ((qsX5_readFactor_5 i).trans (dq_in h))
theorem dX5_readFactor_0 : decode cX5_readFactor 0 = .ok (.aload_n 0, 1) := @dq_o42 cX5_readFactor 0 (qX5_readFactor_0 0 42 rfl)
theorem dX5_readFactor_1 : decode cX5_readFactor 1 = .ok (.invokevirtual 73, 3) := @dq_o182 cX5_readFactor 1 0 73 (qX5_readFactor_0 1 182 rfl) (qX5_readFactor_0 2 0 rfl) (qX5_readFactor_0 3 73 rfl)
theorem dX5_readFactor_4 : decode cX5_readFactor 4 = .ok (.istore_n 2, 1) := @dq_o61 cX5_readFactor 4 (qX5_readFactor_0 4 61 rfl)
theorem dX5_readFactor_5 : decode cX5_readFactor 5 = .ok (.iload_n 2, 1) := @dq_o28 cX5_readFactor 5 (qX5_readFactor_0 5 28 rfl)
theorem dX5_readFactor_6 : decode cX5_readFactor 6 = .ok (.bipush 82, 2) := @dq_o16 cX5_readFactor 6 82 (qX5_readFactor_0 6 16 rfl) (qX5_readFactor_0 7 82 rfl)
theorem dX5_readFactor_8 : decode cX5_readFactor 8 = .ok (.if_icmp .ne 14, 3) := @dq_o160 cX5_readFactor 8 0 14 (qX5_readFactor_0 8 160 rfl) (qX5_readFactor_0 9 0 rfl) (qX5_readFactor_0 10 14 rfl)
theorem dX5_readFactor_11 : decode cX5_readFactor 11 = .ok (.aload_n 0, 1) := @dq_o42 cX5_readFactor 11 (qX5_readFactor_0 11 42 rfl)
theorem dX5_readFactor_12 : decode cX5_readFactor 12 = .ok (.aload_n 0, 1) := @dq_o42 cX5_readFactor 12 (qX5_readFactor_0 12 42 rfl)
theorem dX5_readFactor_13 : decode cX5_readFactor 13 = .ok (.getfield 23, 3) := @dq_o180 cX5_readFactor 13 0 23 (qX5_readFactor_0 13 180 rfl) (qX5_readFactor_0 14 0 rfl) (qX5_readFactor_0 15 23 rfl)
theorem dX5_readFactor_16 : decode cX5_readFactor 16 = .ok (.iload_n 1, 1) := @dq_o27 cX5_readFactor 16 (qX5_readFactor_1 0 27 rfl)
theorem dX5_readFactor_17 : decode cX5_readFactor 17 = .ok (.aaload, 1) := @dq_o50 cX5_readFactor 17 (qX5_readFactor_1 1 50 rfl)
theorem dX5_readFactor_18 : decode cX5_readFactor 18 = .ok (.invokevirtual 108, 3) := @dq_o182 cX5_readFactor 18 0 108 (qX5_readFactor_1 2 182 rfl) (qX5_readFactor_1 3 0 rfl) (qX5_readFactor_1 4 108 rfl)
theorem dX5_readFactor_21 : decode cX5_readFactor 21 = .ok (.ireturn, 1) := @dq_o172 cX5_readFactor 21 (qX5_readFactor_1 5 172 rfl)
theorem dX5_readFactor_22 : decode cX5_readFactor 22 = .ok (.iload_n 2, 1) := @dq_o28 cX5_readFactor 22 (qX5_readFactor_1 6 28 rfl)
theorem dX5_readFactor_23 : decode cX5_readFactor 23 = .ok (.bipush 40, 2) := @dq_o16 cX5_readFactor 23 40 (qX5_readFactor_1 7 16 rfl) (qX5_readFactor_1 8 40 rfl)
theorem dX5_readFactor_25 : decode cX5_readFactor 25 = .ok (.if_icmp .eq 24, 3) := @dq_o159 cX5_readFactor 25 0 24 (qX5_readFactor_1 9 159 rfl) (qX5_readFactor_1 10 0 rfl) (qX5_readFactor_1 11 24 rfl)
theorem dX5_readFactor_28 : decode cX5_readFactor 28 = .ok (.iload_n 2, 1) := @dq_o28 cX5_readFactor 28 (qX5_readFactor_1 12 28 rfl)
theorem dX5_readFactor_29 : decode cX5_readFactor 29 = .ok (.bipush 91, 2) := @dq_o16 cX5_readFactor 29 91 (qX5_readFactor_1 13 16 rfl) (qX5_readFactor_1 14 91 rfl)
theorem dX5_readFactor_31 : decode cX5_readFactor 31 = .ok (.if_icmp .eq 18, 3) := @dq_o159 cX5_readFactor 31 0 18 (qX5_readFactor_1 15 159 rfl) (qX5_readFactor_2 0 0 rfl) (qX5_readFactor_2 1 18 rfl)
theorem dX5_readFactor_34 : decode cX5_readFactor 34 = .ok (.aload_n 0, 1) := @dq_o42 cX5_readFactor 34 (qX5_readFactor_2 2 42 rfl)
theorem dX5_readFactor_35 : decode cX5_readFactor 35 = .ok (.iload_n 2, 1) := @dq_o28 cX5_readFactor 35 (qX5_readFactor_2 3 28 rfl)
theorem dX5_readFactor_36 : decode cX5_readFactor 36 = .ok (.bipush 97, 2) := @dq_o16 cX5_readFactor 36 97 (qX5_readFactor_2 4 16 rfl) (qX5_readFactor_2 5 97 rfl)
theorem dX5_readFactor_38 : decode cX5_readFactor 38 = .ok (.isub, 1) := @dq_o100 cX5_readFactor 38 (qX5_readFactor_2 6 100 rfl)
theorem dX5_readFactor_39 : decode cX5_readFactor 39 = .ok (.aload_n 0, 1) := @dq_o42 cX5_readFactor 39 (qX5_readFactor_2 7 42 rfl)
theorem dX5_readFactor_40 : decode cX5_readFactor 40 = .ok (.getfield 23, 3) := @dq_o180 cX5_readFactor 40 0 23 (qX5_readFactor_2 8 180 rfl) (qX5_readFactor_2 9 0 rfl) (qX5_readFactor_2 10 23 rfl)
theorem dX5_readFactor_43 : decode cX5_readFactor 43 = .ok (.iload_n 1, 1) := @dq_o27 cX5_readFactor 43 (qX5_readFactor_2 11 27 rfl)
theorem dX5_readFactor_44 : decode cX5_readFactor 44 = .ok (.aaload, 1) := @dq_o50 cX5_readFactor 44 (qX5_readFactor_2 12 50 rfl)
theorem dX5_readFactor_45 : decode cX5_readFactor 45 = .ok (.invokevirtual 111, 3) := @dq_o182 cX5_readFactor 45 0 111 (qX5_readFactor_2 13 182 rfl) (qX5_readFactor_2 14 0 rfl) (qX5_readFactor_2 15 111 rfl)
theorem dX5_readFactor_48 : decode cX5_readFactor 48 = .ok (.ireturn, 1) := @dq_o172 cX5_readFactor 48 (qX5_readFactor_3 0 172 rfl)
theorem dX5_readFactor_49 : decode cX5_readFactor 49 = .ok (.iload_n 1, 1) := @dq_o27 cX5_readFactor 49 (qX5_readFactor_3 1 27 rfl)
theorem dX5_readFactor_50 : decode cX5_readFactor 50 = .ok (.bipush 8, 2) := @dq_o16 cX5_readFactor 50 8 (qX5_readFactor_3 2 16 rfl) (qX5_readFactor_3 3 8 rfl)
theorem dX5_readFactor_52 : decode cX5_readFactor 52 = .ok (.if_icmp .lt 13, 3) := @dq_o161 cX5_readFactor 52 0 13 (qX5_readFactor_3 4 161 rfl) (qX5_readFactor_3 5 0 rfl) (qX5_readFactor_3 6 13 rfl)
theorem dX5_readFactor_55 : decode cX5_readFactor 55 = .ok (.aload_n 0, 1) := @dq_o42 cX5_readFactor 55 (qX5_readFactor_3 7 42 rfl)
theorem dX5_readFactor_56 : decode cX5_readFactor 56 = .ok (.iconst 4, 1) := @dq_o7 cX5_readFactor 56 (qX5_readFactor_3 8 7 rfl)
theorem dX5_readFactor_57 : decode cX5_readFactor 57 = .ok (.aload_n 0, 1) := @dq_o42 cX5_readFactor 57 (qX5_readFactor_3 9 42 rfl)
theorem dX5_readFactor_58 : decode cX5_readFactor 58 = .ok (.getfield 36, 3) := @dq_o180 cX5_readFactor 58 0 36 (qX5_readFactor_3 10 180 rfl) (qX5_readFactor_3 11 0 rfl) (qX5_readFactor_3 12 36 rfl)
theorem dX5_readFactor_61 : decode cX5_readFactor 61 = .ok (.invokevirtual 69, 3) := @dq_o182 cX5_readFactor 61 0 69 (qX5_readFactor_3 13 182 rfl) (qX5_readFactor_3 14 0 rfl) (qX5_readFactor_3 15 69 rfl)
theorem dX5_readFactor_64 : decode cX5_readFactor 64 = .ok (.ireturn, 1) := @dq_o172 cX5_readFactor 64 (qX5_readFactor_4 0 172 rfl)
theorem dX5_readFactor_65 : decode cX5_readFactor 65 = .ok (.aload_n 0, 1) := @dq_o42 cX5_readFactor 65 (qX5_readFactor_4 1 42 rfl)
theorem dX5_readFactor_66 : decode cX5_readFactor 66 = .ok (.dup, 1) := @dq_o89 cX5_readFactor 66 (qX5_readFactor_4 2 89 rfl)
theorem dX5_readFactor_67 : decode cX5_readFactor 67 = .ok (.getfield 36, 3) := @dq_o180 cX5_readFactor 67 0 36 (qX5_readFactor_4 3 180 rfl) (qX5_readFactor_4 4 0 rfl) (qX5_readFactor_4 5 36 rfl)
theorem dX5_readFactor_70 : decode cX5_readFactor 70 = .ok (.iconst 1, 1) := @dq_o4 cX5_readFactor 70 (qX5_readFactor_4 6 4 rfl)
theorem dX5_readFactor_71 : decode cX5_readFactor 71 = .ok (.iadd, 1) := @dq_o96 cX5_readFactor 71 (qX5_readFactor_4 7 96 rfl)
theorem dX5_readFactor_72 : decode cX5_readFactor 72 = .ok (.putfield 36, 3) := @dq_o181 cX5_readFactor 72 0 36 (qX5_readFactor_4 8 181 rfl) (qX5_readFactor_4 9 0 rfl) (qX5_readFactor_4 10 36 rfl)
theorem dX5_readFactor_75 : decode cX5_readFactor 75 = .ok (.iload_n 2, 1) := @dq_o28 cX5_readFactor 75 (qX5_readFactor_4 11 28 rfl)
theorem dX5_readFactor_76 : decode cX5_readFactor 76 = .ok (.bipush 40, 2) := @dq_o16 cX5_readFactor 76 40 (qX5_readFactor_4 12 16 rfl) (qX5_readFactor_4 13 40 rfl)
theorem dX5_readFactor_78 : decode cX5_readFactor 78 = .ok (.if_icmp .ne 11, 3) := @dq_o160 cX5_readFactor 78 0 11 (qX5_readFactor_4 14 160 rfl) (qX5_readFactor_4 15 0 rfl) (qX5_readFactor_5 0 11 rfl)
theorem dX5_readFactor_81 : decode cX5_readFactor 81 = .ok (.aload_n 0, 1) := @dq_o42 cX5_readFactor 81 (qX5_readFactor_5 1 42 rfl)
theorem dX5_readFactor_82 : decode cX5_readFactor 82 = .ok (.iload_n 1, 1) := @dq_o27 cX5_readFactor 82 (qX5_readFactor_5 2 27 rfl)
theorem dX5_readFactor_83 : decode cX5_readFactor 83 = .ok (.invokevirtual 115, 3) := @dq_o182 cX5_readFactor 83 0 115 (qX5_readFactor_5 3 182 rfl) (qX5_readFactor_5 4 0 rfl) (qX5_readFactor_5 5 115 rfl)
theorem dX5_readFactor_86 : decode cX5_readFactor 86 = .ok (.goto 8, 3) := @dq_o167 cX5_readFactor 86 0 8 (qX5_readFactor_5 6 167 rfl) (qX5_readFactor_5 7 0 rfl) (qX5_readFactor_5 8 8 rfl)
theorem dX5_readFactor_89 : decode cX5_readFactor 89 = .ok (.aload_n 0, 1) := @dq_o42 cX5_readFactor 89 (qX5_readFactor_5 9 42 rfl)
theorem dX5_readFactor_90 : decode cX5_readFactor 90 = .ok (.iload_n 1, 1) := @dq_o27 cX5_readFactor 90 (qX5_readFactor_5 10 27 rfl)
theorem dX5_readFactor_91 : decode cX5_readFactor 91 = .ok (.invokevirtual 118, 3) := @dq_o182 cX5_readFactor 91 0 118 (qX5_readFactor_5 11 182 rfl) (qX5_readFactor_5 12 0 rfl) (qX5_readFactor_5 13 118 rfl)
theorem dX5_readFactor_94 : decode cX5_readFactor 94 = .ok (.ireturn, 1) := @dq_o172 cX5_readFactor 94 (qX5_readFactor_5 14 172 rfl)
abbrev qaX5_readLetter_0 : List Nat := [27, 155, 0, 17, 27, 42, 180, 0, 42, 180, 0, 121, 180, 0, 127, 161]
abbrev qaX5_readLetter_1 : List Nat := [0, 13, 42, 6, 42, 180, 0, 36, 182, 0, 69, 172, 44, 27, 10, 184]
abbrev qaX5_readLetter_2 : List Nat := [0, 132, 42, 182, 0, 136, 172]
def qtX5_readLetter_3 : List Nat := []
def qtX5_readLetter_2 : List Nat := qaX5_readLetter_2 ++ qtX5_readLetter_3
def qtX5_readLetter_1 : List Nat := qaX5_readLetter_1 ++ qtX5_readLetter_2
def qtX5_readLetter_0 : List Nat := qaX5_readLetter_0 ++ qtX5_readLetter_1
theorem qeX5_readLetter : cX5_readLetter.data.toList.map UInt8.toNat = qtX5_readLetter_0 := by decide +kernel
theorem qsX5_readLetter_0 : ∀ i, dqNth qtX5_readLetter_0 (0 + i) = dqNth qtX5_readLetter_0 i := fun i => by rw [Nat.zero_add]
theorem qsX5_readLetter_1 : ∀ i, dqNth qtX5_readLetter_0 (16 + i) = dqNth qtX5_readLetter_1 i := dq_step qsX5_readLetter_0 rfl rfl
theorem qsX5_readLetter_2 : ∀ i, dqNth qtX5_readLetter_0 (32 + i) = dqNth qtX5_readLetter_2 i := dq_step qsX5_readLetter_1 rfl rfl
theorem qX5_readLetter_0 (i b : Nat) (h : dqNth qaX5_readLetter_0 i = some b) : DqBy cX5_readLetter (0 + i) b := dqBy_of qeX5_readLetter ((qsX5_readLetter_0 i).trans (dq_in h))
theorem qX5_readLetter_1 (i b : Nat) (h : dqNth qaX5_readLetter_1 i = some b) : DqBy cX5_readLetter (16 + i) b := dqBy_of qeX5_readLetter ((qsX5_readLetter_1 i).trans (dq_in h))
theorem qX5_readLetter_2 (i b : Nat) (h : dqNth qaX5_readLetter_2 i = some b) : DqBy cX5_readLetter (32 + i) b := dqBy_of qeX5_readLetter ((qsX5_readLetter_2 i).trans (dq_in h))
theorem dX5_readLetter_0 : decode cX5_readLetter 0 = .ok (.iload_n 1, 1) := @dq_o27 cX5_readLetter 0 (qX5_readLetter_0 0 27 rfl)
theorem dX5_readLetter_1 : decode cX5_readLetter 1 = .ok (.ifCond .lt 17, 3) := @dq_o155 cX5_readLetter 1 0 17 (qX5_readLetter_0 1 155 rfl) (qX5_readLetter_0 2 0 rfl) (qX5_readLetter_0 3 17 rfl)
theorem dX5_readLetter_4 : decode cX5_readLetter 4 = .ok (.iload_n 1, 1) := @dq_o27 cX5_readLetter 4 (qX5_readLetter_0 4 27 rfl)
theorem dX5_readLetter_5 : decode cX5_readLetter 5 = .ok (.aload_n 0, 1) := @dq_o42 cX5_readLetter 5 (qX5_readLetter_0 5 42 rfl)
theorem dX5_readLetter_6 : decode cX5_readLetter 6 = .ok (.getfield 42, 3) := @dq_o180 cX5_readLetter 6 0 42 (qX5_readLetter_0 6 180 rfl) (qX5_readLetter_0 7 0 rfl) (qX5_readLetter_0 8 42 rfl)
theorem dX5_readLetter_9 : decode cX5_readLetter 9 = .ok (.getfield 121, 3) := @dq_o180 cX5_readLetter 9 0 121 (qX5_readLetter_0 9 180 rfl) (qX5_readLetter_0 10 0 rfl) (qX5_readLetter_0 11 121 rfl)
theorem dX5_readLetter_12 : decode cX5_readLetter 12 = .ok (.getfield 127, 3) := @dq_o180 cX5_readLetter 12 0 127 (qX5_readLetter_0 12 180 rfl) (qX5_readLetter_0 13 0 rfl) (qX5_readLetter_0 14 127 rfl)
theorem dX5_readLetter_15 : decode cX5_readLetter 15 = .ok (.if_icmp .lt 13, 3) := @dq_o161 cX5_readLetter 15 0 13 (qX5_readLetter_0 15 161 rfl) (qX5_readLetter_1 0 0 rfl) (qX5_readLetter_1 1 13 rfl)
theorem dX5_readLetter_18 : decode cX5_readLetter 18 = .ok (.aload_n 0, 1) := @dq_o42 cX5_readLetter 18 (qX5_readLetter_1 2 42 rfl)
theorem dX5_readLetter_19 : decode cX5_readLetter 19 = .ok (.iconst 3, 1) := @dq_o6 cX5_readLetter 19 (qX5_readLetter_1 3 6 rfl)
theorem dX5_readLetter_20 : decode cX5_readLetter 20 = .ok (.aload_n 0, 1) := @dq_o42 cX5_readLetter 20 (qX5_readLetter_1 4 42 rfl)
theorem dX5_readLetter_21 : decode cX5_readLetter 21 = .ok (.getfield 36, 3) := @dq_o180 cX5_readLetter 21 0 36 (qX5_readLetter_1 5 180 rfl) (qX5_readLetter_1 6 0 rfl) (qX5_readLetter_1 7 36 rfl)
theorem dX5_readLetter_24 : decode cX5_readLetter 24 = .ok (.invokevirtual 69, 3) := @dq_o182 cX5_readLetter 24 0 69 (qX5_readLetter_1 8 182 rfl) (qX5_readLetter_1 9 0 rfl) (qX5_readLetter_1 10 69 rfl)
theorem dX5_readLetter_27 : decode cX5_readLetter 27 = .ok (.ireturn, 1) := @dq_o172 cX5_readLetter 27 (qX5_readLetter_1 11 172 rfl)
theorem dX5_readLetter_28 : decode cX5_readLetter 28 = .ok (.aload_n 2, 1) := @dq_o44 cX5_readLetter 28 (qX5_readLetter_1 12 44 rfl)
theorem dX5_readLetter_29 : decode cX5_readLetter 29 = .ok (.iload_n 1, 1) := @dq_o27 cX5_readLetter 29 (qX5_readLetter_1 13 27 rfl)
theorem dX5_readLetter_30 : decode cX5_readLetter 30 = .ok (.lconst 1, 1) := @dq_o10 cX5_readLetter 30 (qX5_readLetter_1 14 10 rfl)
theorem dX5_readLetter_31 : decode cX5_readLetter 31 = .ok (.invokestatic 132, 3) := @dq_o184 cX5_readLetter 31 0 132 (qX5_readLetter_1 15 184 rfl) (qX5_readLetter_2 0 0 rfl) (qX5_readLetter_2 1 132 rfl)
theorem dX5_readLetter_34 : decode cX5_readLetter 34 = .ok (.aload_n 0, 1) := @dq_o42 cX5_readLetter 34 (qX5_readLetter_2 2 42 rfl)
theorem dX5_readLetter_35 : decode cX5_readLetter 35 = .ok (.invokevirtual 136, 3) := @dq_o182 cX5_readLetter 35 0 136 (qX5_readLetter_2 3 182 rfl) (qX5_readLetter_2 4 0 rfl) (qX5_readLetter_2 5 136 rfl)
theorem dX5_readLetter_38 : decode cX5_readLetter 38 = .ok (.ireturn, 1) := @dq_o172 cX5_readLetter 38 (qX5_readLetter_2 6 172 rfl)
abbrev qaX5_readRegister_0 : List Nat := [42, 89, 180, 0, 36, 4, 96, 181, 0, 36, 42, 182, 0, 73, 16, 48]
abbrev qaX5_readRegister_1 : List Nat := [100, 61, 28, 184, 0, 140, 154, 0, 13, 42, 4, 42, 180, 0, 36, 182]
abbrev qaX5_readRegister_2 : List Nat := [0, 69, 172, 42, 180, 0, 42, 180, 0, 143, 28, 50, 43, 184, 0, 146]
abbrev qaX5_readRegister_3 : List Nat := [42, 182, 0, 136, 172]
def qtX5_readRegister_4 : List Nat := []
def qtX5_readRegister_3 : List Nat := qaX5_readRegister_3 ++ qtX5_readRegister_4
def qtX5_readRegister_2 : List Nat := qaX5_readRegister_2 ++ qtX5_readRegister_3
def qtX5_readRegister_1 : List Nat := qaX5_readRegister_1 ++ qtX5_readRegister_2
def qtX5_readRegister_0 : List Nat := qaX5_readRegister_0 ++ qtX5_readRegister_1
theorem qeX5_readRegister : cX5_readRegister.data.toList.map UInt8.toNat = qtX5_readRegister_0 := by decide +kernel
theorem qsX5_readRegister_0 : ∀ i, dqNth qtX5_readRegister_0 (0 + i) = dqNth qtX5_readRegister_0 i := fun i => by rw [Nat.zero_add]
theorem qsX5_readRegister_1 : ∀ i, dqNth qtX5_readRegister_0 (16 + i) = dqNth qtX5_readRegister_1 i := dq_step qsX5_readRegister_0 rfl rfl
theorem qsX5_readRegister_2 : ∀ i, dqNth qtX5_readRegister_0 (32 + i) = dqNth qtX5_readRegister_2 i := dq_step qsX5_readRegister_1 rfl rfl
theorem qsX5_readRegister_3 : ∀ i, dqNth qtX5_readRegister_0 (48 + i) = dqNth qtX5_readRegister_3 i := dq_step qsX5_readRegister_2 rfl rfl
theorem qX5_readRegister_0 (i b : Nat) (h : dqNth qaX5_readRegister_0 i = some b) : DqBy cX5_readRegister (0 + i) b := dqBy_of qeX5_readRegister ((qsX5_readRegister_0 i).trans (dq_in h))
theorem qX5_readRegister_1 (i b : Nat) (h : dqNth qaX5_readRegister_1 i = some b) : DqBy cX5_readRegister (16 + i) b := dqBy_of qeX5_readRegister ((qsX5_readRegister_1 i).trans (dq_in h))
theorem qX5_readRegister_2 (i b : Nat) (h : dqNth qaX5_readRegister_2 i = some b) : DqBy cX5_readRegister (32 + i) b := dqBy_of qeX5_readRegister ((qsX5_readRegister_2 i).trans (dq_in h))
theorem qX5_readRegister_3 (i b : Nat) (h : dqNth qaX5_readRegister_3 i = some b) : DqBy cX5_readRegister (48 + i) b := dqBy_of qeX5_readRegister ((qsX5_readRegister_3 i).trans (dq_in h))
theorem dX5_readRegister_0 : decode cX5_readRegister 0 = .ok (.aload_n 0, 1) := @dq_o42 cX5_readRegister 0 (qX5_readRegister_0 0 42 rfl)
theorem dX5_readRegister_1 : decode cX5_readRegister 1 = .ok (.dup, 1) := @dq_o89 cX5_readRegister 1 (qX5_readRegister_0 1 89 rfl)
theorem dX5_readRegister_2 : decode cX5_readRegister 2 = .ok (.getfield 36, 3) := @dq_o180 cX5_readRegister 2 0 36 (qX5_readRegister_0 2 180 rfl) (qX5_readRegister_0 3 0 rfl) (qX5_readRegister_0 4 36 rfl)
theorem dX5_readRegister_5 : decode cX5_readRegister 5 = .ok (.iconst 1, 1) := @dq_o4 cX5_readRegister 5 (qX5_readRegister_0 5 4 rfl)
theorem dX5_readRegister_6 : decode cX5_readRegister 6 = .ok (.iadd, 1) := @dq_o96 cX5_readRegister 6 (qX5_readRegister_0 6 96 rfl)
theorem dX5_readRegister_7 : decode cX5_readRegister 7 = .ok (.putfield 36, 3) := @dq_o181 cX5_readRegister 7 0 36 (qX5_readRegister_0 7 181 rfl) (qX5_readRegister_0 8 0 rfl) (qX5_readRegister_0 9 36 rfl)
theorem dX5_readRegister_10 : decode cX5_readRegister 10 = .ok (.aload_n 0, 1) := @dq_o42 cX5_readRegister 10 (qX5_readRegister_0 10 42 rfl)
theorem dX5_readRegister_11 : decode cX5_readRegister 11 = .ok (.invokevirtual 73, 3) := @dq_o182 cX5_readRegister 11 0 73 (qX5_readRegister_0 11 182 rfl) (qX5_readRegister_0 12 0 rfl) (qX5_readRegister_0 13 73 rfl)
theorem dX5_readRegister_14 : decode cX5_readRegister 14 = .ok (.bipush 48, 2) := @dq_o16 cX5_readRegister 14 48 (qX5_readRegister_0 14 16 rfl) (qX5_readRegister_0 15 48 rfl)
theorem dX5_readRegister_16 : decode cX5_readRegister 16 = .ok (.isub, 1) := @dq_o100 cX5_readRegister 16 (qX5_readRegister_1 0 100 rfl)
theorem dX5_readRegister_17 : decode cX5_readRegister 17 = .ok (.istore_n 2, 1) := @dq_o61 cX5_readRegister 17 (qX5_readRegister_1 1 61 rfl)
theorem dX5_readRegister_18 : decode cX5_readRegister 18 = .ok (.iload_n 2, 1) := @dq_o28 cX5_readRegister 18 (qX5_readRegister_1 2 28 rfl)
theorem dX5_readRegister_19 : decode cX5_readRegister 19 = .ok (.invokestatic 140, 3) := @dq_o184 cX5_readRegister 19 0 140 (qX5_readRegister_1 3 184 rfl) (qX5_readRegister_1 4 0 rfl) (qX5_readRegister_1 5 140 rfl)
theorem dX5_readRegister_22 : decode cX5_readRegister 22 = .ok (.ifCond .ne 13, 3) := @dq_o154 cX5_readRegister 22 0 13 (qX5_readRegister_1 6 154 rfl) (qX5_readRegister_1 7 0 rfl) (qX5_readRegister_1 8 13 rfl)
theorem dX5_readRegister_25 : decode cX5_readRegister 25 = .ok (.aload_n 0, 1) := @dq_o42 cX5_readRegister 25 (qX5_readRegister_1 9 42 rfl)
theorem dX5_readRegister_26 : decode cX5_readRegister 26 = .ok (.iconst 1, 1) := @dq_o4 cX5_readRegister 26 (qX5_readRegister_1 10 4 rfl)
theorem dX5_readRegister_27 : decode cX5_readRegister 27 = .ok (.aload_n 0, 1) := @dq_o42 cX5_readRegister 27 (qX5_readRegister_1 11 42 rfl)
theorem dX5_readRegister_28 : decode cX5_readRegister 28 = .ok (.getfield 36, 3) := @dq_o180 cX5_readRegister 28 0 36 (qX5_readRegister_1 12 180 rfl) (qX5_readRegister_1 13 0 rfl) (qX5_readRegister_1 14 36 rfl)
theorem dX5_readRegister_31 : decode cX5_readRegister 31 = .ok (.invokevirtual 69, 3) := @dq_o182 cX5_readRegister 31 0 69 (qX5_readRegister_1 15 182 rfl) (qX5_readRegister_2 0 0 rfl) (qX5_readRegister_2 1 69 rfl)
theorem dX5_readRegister_34 : decode cX5_readRegister 34 = .ok (.ireturn, 1) := @dq_o172 cX5_readRegister 34 (qX5_readRegister_2 2 172 rfl)
theorem dX5_readRegister_35 : decode cX5_readRegister 35 = .ok (.aload_n 0, 1) := @dq_o42 cX5_readRegister 35 (qX5_readRegister_2 3 42 rfl)
theorem dX5_readRegister_36 : decode cX5_readRegister 36 = .ok (.getfield 42, 3) := @dq_o180 cX5_readRegister 36 0 42 (qX5_readRegister_2 4 180 rfl) (qX5_readRegister_2 5 0 rfl) (qX5_readRegister_2 6 42 rfl)
theorem dX5_readRegister_39 : decode cX5_readRegister 39 = .ok (.getfield 143, 3) := @dq_o180 cX5_readRegister 39 0 143 (qX5_readRegister_2 7 180 rfl) (qX5_readRegister_2 8 0 rfl) (qX5_readRegister_2 9 143 rfl)
theorem dX5_readRegister_42 : decode cX5_readRegister 42 = .ok (.iload_n 2, 1) := @dq_o28 cX5_readRegister 42 (qX5_readRegister_2 10 28 rfl)
theorem dX5_readRegister_43 : decode cX5_readRegister 43 = .ok (.aaload, 1) := @dq_o50 cX5_readRegister 43 (qX5_readRegister_2 11 50 rfl)
theorem dX5_readRegister_44 : decode cX5_readRegister 44 = .ok (.aload_n 1, 1) := @dq_o43 cX5_readRegister 44 (qX5_readRegister_2 12 43 rfl)
theorem dX5_readRegister_45 : decode cX5_readRegister 45 = .ok (.invokestatic 146, 3) := @dq_o184 cX5_readRegister 45 0 146 (qX5_readRegister_2 13 184 rfl) (qX5_readRegister_2 14 0 rfl) (qX5_readRegister_2 15 146 rfl)
theorem dX5_readRegister_48 : decode cX5_readRegister 48 = .ok (.aload_n 0, 1) := @dq_o42 cX5_readRegister 48 (qX5_readRegister_3 0 42 rfl)
theorem dX5_readRegister_49 : decode cX5_readRegister 49 = .ok (.invokevirtual 136, 3) := @dq_o182 cX5_readRegister 49 0 136 (qX5_readRegister_3 1 182 rfl) (qX5_readRegister_3 2 0 rfl) (qX5_readRegister_3 3 136 rfl)
theorem dX5_readRegister_52 : decode cX5_readRegister 52 = .ok (.ireturn, 1) := @dq_o172 cX5_readRegister 52 (qX5_readRegister_3 4 172 rfl)
abbrev qaX5_passFactor_0 : List Nat := [42, 89, 180, 0, 36, 4, 96, 181, 0, 36, 42, 42, 180, 0, 36, 181]
abbrev qaX5_passFactor_1 : List Nat := [0, 39, 4, 172]
def qtX5_passFactor_2 : List Nat := []
def qtX5_passFactor_1 : List Nat := qaX5_passFactor_1 ++ qtX5_passFactor_2
def qtX5_passFactor_0 : List Nat := qaX5_passFactor_0 ++ qtX5_passFactor_1
theorem qeX5_passFactor : cX5_passFactor.data.toList.map UInt8.toNat = qtX5_passFactor_0 := by decide +kernel
theorem qsX5_passFactor_0 : ∀ i, dqNth qtX5_passFactor_0 (0 + i) = dqNth qtX5_passFactor_0 i := fun i => by rw [Nat.zero_add]
theorem qsX5_passFactor_1 : ∀ i, dqNth qtX5_passFactor_0 (16 + i) = dqNth qtX5_passFactor_1 i := dq_step qsX5_passFactor_0 rfl rfl
theorem qX5_passFactor_0 (i b : Nat) (h : dqNth qaX5_passFactor_0 i = some b) : DqBy cX5_passFactor (0 + i) b := dqBy_of qeX5_passFactor ((qsX5_passFactor_0 i).trans (dq_in h))
theorem qX5_passFactor_1 (i b : Nat) (h : dqNth qaX5_passFactor_1 i = some b) : DqBy cX5_passFactor (16 + i) b := dqBy_of qeX5_passFactor ((qsX5_passFactor_1 i).trans (dq_in h))
theorem dX5_passFactor_0 : decode cX5_passFactor 0 = .ok (.aload_n 0, 1) := @dq_o42 cX5_passFactor 0 (qX5_passFactor_0 0 42 rfl)
theorem dX5_passFactor_1 : decode cX5_passFactor 1 = .ok (.dup, 1) := @dq_o89 cX5_passFactor 1 (qX5_passFactor_0 1 89 rfl)
theorem dX5_passFactor_2 : decode cX5_passFactor 2 = .ok (.getfield 36, 3) := @dq_o180 cX5_passFactor 2 0 36 (qX5_passFactor_0 2 180 rfl) (qX5_passFactor_0 3 0 rfl) (qX5_passFactor_0 4 36 rfl)
theorem dX5_passFactor_5 : decode cX5_passFactor 5 = .ok (.iconst 1, 1) := @dq_o4 cX5_passFactor 5 (qX5_passFactor_0 5 4 rfl)
theorem dX5_passFactor_6 : decode cX5_passFactor 6 = .ok (.iadd, 1) := @dq_o96 cX5_passFactor 6 (qX5_passFactor_0 6 96 rfl)
theorem dX5_passFactor_7 : decode cX5_passFactor 7 = .ok (.putfield 36, 3) := @dq_o181 cX5_passFactor 7 0 36 (qX5_passFactor_0 7 181 rfl) (qX5_passFactor_0 8 0 rfl) (qX5_passFactor_0 9 36 rfl)
theorem dX5_passFactor_10 : decode cX5_passFactor 10 = .ok (.aload_n 0, 1) := @dq_o42 cX5_passFactor 10 (qX5_passFactor_0 10 42 rfl)
theorem dX5_passFactor_11 : decode cX5_passFactor 11 = .ok (.aload_n 0, 1) := @dq_o42 cX5_passFactor 11 (qX5_passFactor_0 11 42 rfl)
theorem dX5_passFactor_12 : decode cX5_passFactor 12 = .ok (.getfield 36, 3) := @dq_o180 cX5_passFactor 12 0 36 (qX5_passFactor_0 12 180 rfl) (qX5_passFactor_0 13 0 rfl) (qX5_passFactor_0 14 36 rfl)
theorem dX5_passFactor_15 : decode cX5_passFactor 15 = .ok (.putfield 39, 3) := @dq_o181 cX5_passFactor 15 0 39 (qX5_passFactor_0 15 181 rfl) (qX5_passFactor_1 0 0 rfl) (qX5_passFactor_1 1 39 rfl)
theorem dX5_passFactor_18 : decode cX5_passFactor 18 = .ok (.iconst 1, 1) := @dq_o4 cX5_passFactor 18 (qX5_passFactor_1 2 4 rfl)
theorem dX5_passFactor_19 : decode cX5_passFactor 19 = .ok (.ireturn, 1) := @dq_o172 cX5_passFactor 19 (qX5_passFactor_1 3 172 rfl)
abbrev qaX5_readRound_0 : List Nat := [42, 27, 4, 96, 182, 0, 65, 154, 0, 5, 3, 172, 42, 182, 0, 73]
abbrev qaX5_readRound_1 : List Nat := [16, 41, 159, 0, 13, 42, 4, 42, 180, 0, 36, 182, 0, 69, 172, 42]
abbrev qaX5_readRound_2 : List Nat := [180, 0, 20, 27, 4, 96, 50, 42, 180, 0, 23, 27, 50, 184, 0, 146]
abbrev qaX5_readRound_3 : List Nat := [42, 182, 0, 136, 172]
def qtX5_readRound_4 : List Nat := []
def qtX5_readRound_3 : List Nat := qaX5_readRound_3 ++ qtX5_readRound_4
def qtX5_readRound_2 : List Nat := qaX5_readRound_2 ++ qtX5_readRound_3
def qtX5_readRound_1 : List Nat := qaX5_readRound_1 ++ qtX5_readRound_2
def qtX5_readRound_0 : List Nat := qaX5_readRound_0 ++ qtX5_readRound_1
theorem qeX5_readRound : cX5_readRound.data.toList.map UInt8.toNat = qtX5_readRound_0 := by decide +kernel
theorem qsX5_readRound_0 : ∀ i, dqNth qtX5_readRound_0 (0 + i) = dqNth qtX5_readRound_0 i := fun i => by rw [Nat.zero_add]
theorem qsX5_readRound_1 : ∀ i, dqNth qtX5_readRound_0 (16 + i) = dqNth qtX5_readRound_1 i := dq_step qsX5_readRound_0 rfl rfl
theorem qsX5_readRound_2 : ∀ i, dqNth qtX5_readRound_0 (32 + i) = dqNth qtX5_readRound_2 i := dq_step qsX5_readRound_1 rfl rfl
theorem qsX5_readRound_3 : ∀ i, dqNth qtX5_readRound_0 (48 + i) = dqNth qtX5_readRound_3 i := dq_step qsX5_readRound_2 rfl rfl
theorem qX5_readRound_0 (i b : Nat) (h : dqNth qaX5_readRound_0 i = some b) : DqBy cX5_readRound (0 + i) b := dqBy_of qeX5_readRound ((qsX5_readRound_0 i).trans (dq_in h))
theorem qX5_readRound_1 (i b : Nat) (h : dqNth qaX5_readRound_1 i = some b) : DqBy cX5_readRound (16 + i) b := dqBy_of qeX5_readRound ((qsX5_readRound_1 i).trans (dq_in h))
theorem qX5_readRound_2 (i b : Nat) (h : dqNth qaX5_readRound_2 i = some b) : DqBy cX5_readRound (32 + i) b := dqBy_of qeX5_readRound ((qsX5_readRound_2 i).trans (dq_in h))
theorem qX5_readRound_3 (i b : Nat) (h : dqNth qaX5_readRound_3 i = some b) : DqBy cX5_readRound (48 + i) b := dqBy_of qeX5_readRound ((qsX5_readRound_3 i).trans (dq_in h))
theorem dX5_readRound_0 : decode cX5_readRound 0 = .ok (.aload_n 0, 1) := @dq_o42 cX5_readRound 0 (qX5_readRound_0 0 42 rfl)
theorem dX5_readRound_1 : decode cX5_readRound 1 = .ok (.iload_n 1, 1) := @dq_o27 cX5_readRound 1 (qX5_readRound_0 1 27 rfl)
theorem dX5_readRound_2 : decode cX5_readRound 2 = .ok (.iconst 1, 1) := @dq_o4 cX5_readRound 2 (qX5_readRound_0 2 4 rfl)
theorem dX5_readRound_3 : decode cX5_readRound 3 = .ok (.iadd, 1) := @dq_o96 cX5_readRound 3 (qX5_readRound_0 3 96 rfl)
theorem dX5_readRound_4 : decode cX5_readRound 4 = .ok (.invokevirtual 65, 3) := @dq_o182 cX5_readRound 4 0 65 (qX5_readRound_0 4 182 rfl) (qX5_readRound_0 5 0 rfl) (qX5_readRound_0 6 65 rfl)
theorem dX5_readRound_7 : decode cX5_readRound 7 = .ok (.ifCond .ne 5, 3) := @dq_o154 cX5_readRound 7 0 5 (qX5_readRound_0 7 154 rfl) (qX5_readRound_0 8 0 rfl) (qX5_readRound_0 9 5 rfl)
theorem dX5_readRound_10 : decode cX5_readRound 10 = .ok (.iconst 0, 1) := @dq_o3 cX5_readRound 10 (qX5_readRound_0 10 3 rfl)
theorem dX5_readRound_11 : decode cX5_readRound 11 = .ok (.ireturn, 1) := @dq_o172 cX5_readRound 11 (qX5_readRound_0 11 172 rfl)
theorem dX5_readRound_12 : decode cX5_readRound 12 = .ok (.aload_n 0, 1) := @dq_o42 cX5_readRound 12 (qX5_readRound_0 12 42 rfl)
theorem dX5_readRound_13 : decode cX5_readRound 13 = .ok (.invokevirtual 73, 3) := @dq_o182 cX5_readRound 13 0 73 (qX5_readRound_0 13 182 rfl) (qX5_readRound_0 14 0 rfl) (qX5_readRound_0 15 73 rfl)
theorem dX5_readRound_16 : decode cX5_readRound 16 = .ok (.bipush 41, 2) := @dq_o16 cX5_readRound 16 41 (qX5_readRound_1 0 16 rfl) (qX5_readRound_1 1 41 rfl)
theorem dX5_readRound_18 : decode cX5_readRound 18 = .ok (.if_icmp .eq 13, 3) := @dq_o159 cX5_readRound 18 0 13 (qX5_readRound_1 2 159 rfl) (qX5_readRound_1 3 0 rfl) (qX5_readRound_1 4 13 rfl)
theorem dX5_readRound_21 : decode cX5_readRound 21 = .ok (.aload_n 0, 1) := @dq_o42 cX5_readRound 21 (qX5_readRound_1 5 42 rfl)
theorem dX5_readRound_22 : decode cX5_readRound 22 = .ok (.iconst 1, 1) := @dq_o4 cX5_readRound 22 (qX5_readRound_1 6 4 rfl)
theorem dX5_readRound_23 : decode cX5_readRound 23 = .ok (.aload_n 0, 1) := @dq_o42 cX5_readRound 23 (qX5_readRound_1 7 42 rfl)
theorem dX5_readRound_24 : decode cX5_readRound 24 = .ok (.getfield 36, 3) := @dq_o180 cX5_readRound 24 0 36 (qX5_readRound_1 8 180 rfl) (qX5_readRound_1 9 0 rfl) (qX5_readRound_1 10 36 rfl)
theorem dX5_readRound_27 : decode cX5_readRound 27 = .ok (.invokevirtual 69, 3) := @dq_o182 cX5_readRound 27 0 69 (qX5_readRound_1 11 182 rfl) (qX5_readRound_1 12 0 rfl) (qX5_readRound_1 13 69 rfl)
theorem dX5_readRound_30 : decode cX5_readRound 30 = .ok (.ireturn, 1) := @dq_o172 cX5_readRound 30 (qX5_readRound_1 14 172 rfl)
theorem dX5_readRound_31 : decode cX5_readRound 31 = .ok (.aload_n 0, 1) := @dq_o42 cX5_readRound 31 (qX5_readRound_1 15 42 rfl)
theorem dX5_readRound_32 : decode cX5_readRound 32 = .ok (.getfield 20, 3) := @dq_o180 cX5_readRound 32 0 20 (qX5_readRound_2 0 180 rfl) (qX5_readRound_2 1 0 rfl) (qX5_readRound_2 2 20 rfl)
theorem dX5_readRound_35 : decode cX5_readRound 35 = .ok (.iload_n 1, 1) := @dq_o27 cX5_readRound 35 (qX5_readRound_2 3 27 rfl)
theorem dX5_readRound_36 : decode cX5_readRound 36 = .ok (.iconst 1, 1) := @dq_o4 cX5_readRound 36 (qX5_readRound_2 4 4 rfl)
theorem dX5_readRound_37 : decode cX5_readRound 37 = .ok (.iadd, 1) := @dq_o96 cX5_readRound 37 (qX5_readRound_2 5 96 rfl)
theorem dX5_readRound_38 : decode cX5_readRound 38 = .ok (.aaload, 1) := @dq_o50 cX5_readRound 38 (qX5_readRound_2 6 50 rfl)
theorem dX5_readRound_39 : decode cX5_readRound 39 = .ok (.aload_n 0, 1) := @dq_o42 cX5_readRound 39 (qX5_readRound_2 7 42 rfl)
theorem dX5_readRound_40 : decode cX5_readRound 40 = .ok (.getfield 23, 3) := @dq_o180 cX5_readRound 40 0 23 (qX5_readRound_2 8 180 rfl) (qX5_readRound_2 9 0 rfl) (qX5_readRound_2 10 23 rfl)
theorem dX5_readRound_43 : decode cX5_readRound 43 = .ok (.iload_n 1, 1) := @dq_o27 cX5_readRound 43 (qX5_readRound_2 11 27 rfl)
theorem dX5_readRound_44 : decode cX5_readRound 44 = .ok (.aaload, 1) := @dq_o50 cX5_readRound 44 (qX5_readRound_2 12 50 rfl)
theorem dX5_readRound_45 : decode cX5_readRound 45 = .ok (.invokestatic 146, 3) := @dq_o184 cX5_readRound 45 0 146 (qX5_readRound_2 13 184 rfl) (qX5_readRound_2 14 0 rfl) (qX5_readRound_2 15 146 rfl)
theorem dX5_readRound_48 : decode cX5_readRound 48 = .ok (.aload_n 0, 1) := @dq_o42 cX5_readRound 48 (qX5_readRound_3 0 42 rfl)
theorem dX5_readRound_49 : decode cX5_readRound 49 = .ok (.invokevirtual 136, 3) := @dq_o182 cX5_readRound 49 0 136 (qX5_readRound_3 1 182 rfl) (qX5_readRound_3 2 0 rfl) (qX5_readRound_3 3 136 rfl)
theorem dX5_readRound_52 : decode cX5_readRound 52 = .ok (.ireturn, 1) := @dq_o172 cX5_readRound 52 (qX5_readRound_3 4 172 rfl)
abbrev qaX5_readSquare_0 : List Nat := [42, 180, 0, 26, 27, 50, 77, 42, 27, 4, 96, 182, 0, 65, 154, 0]
abbrev qaX5_readSquare_1 : List Nat := [5, 3, 172, 42, 180, 0, 20, 27, 4, 96, 50, 44, 184, 0, 146, 42]
abbrev qaX5_readSquare_2 : List Nat := [182, 0, 73, 16, 44, 159, 0, 13, 42, 4, 42, 180, 0, 36, 182, 0]
abbrev qaX5_readSquare_3 : List Nat := [69, 172, 3, 62, 29, 17, 0, 200, 162, 0, 77, 42, 182, 0, 73, 16]
abbrev qaX5_readSquare_4 : List Nat := [44, 160, 0, 68, 42, 89, 180, 0, 36, 4, 96, 181, 0, 36, 42, 27]
abbrev qaX5_readSquare_5 : List Nat := [4, 96, 182, 0, 65, 154, 0, 5, 3, 172, 42, 180, 0, 46, 44, 44]
abbrev qaX5_readSquare_6 : List Nat := [42, 180, 0, 20, 27, 4, 96, 50, 182, 0, 150, 44, 20, 0, 102, 184]
abbrev qaX5_readSquare_7 : List Nat := [0, 104, 154, 0, 13, 42, 8, 42, 180, 0, 39, 182, 0, 69, 172, 132]
abbrev qaX5_readSquare_8 : List Nat := [3, 1, 167, 255, 178, 42, 182, 0, 73, 16, 93, 159, 0, 13, 42, 4]
abbrev qaX5_readSquare_9 : List Nat := [42, 180, 0, 36, 182, 0, 69, 172, 44, 42, 180, 0, 23, 27, 50, 184]
abbrev qaX5_readSquare_10 : List Nat := [0, 146, 42, 182, 0, 136, 172]
def qtX5_readSquare_11 : List Nat := []
def qtX5_readSquare_10 : List Nat := qaX5_readSquare_10 ++ qtX5_readSquare_11
def qtX5_readSquare_9 : List Nat := qaX5_readSquare_9 ++ qtX5_readSquare_10
def qtX5_readSquare_8 : List Nat := qaX5_readSquare_8 ++ qtX5_readSquare_9
def qtX5_readSquare_7 : List Nat := qaX5_readSquare_7 ++ qtX5_readSquare_8
def qtX5_readSquare_6 : List Nat := qaX5_readSquare_6 ++ qtX5_readSquare_7
def qtX5_readSquare_5 : List Nat := qaX5_readSquare_5 ++ qtX5_readSquare_6
def qtX5_readSquare_4 : List Nat := qaX5_readSquare_4 ++ qtX5_readSquare_5
def qtX5_readSquare_3 : List Nat := qaX5_readSquare_3 ++ qtX5_readSquare_4
def qtX5_readSquare_2 : List Nat := qaX5_readSquare_2 ++ qtX5_readSquare_3
def qtX5_readSquare_1 : List Nat := qaX5_readSquare_1 ++ qtX5_readSquare_2
def qtX5_readSquare_0 : List Nat := qaX5_readSquare_0 ++ qtX5_readSquare_1
theorem qeX5_readSquare : cX5_readSquare.data.toList.map UInt8.toNat = qtX5_readSquare_0 := by decide +kernel
theorem qsX5_readSquare_0 : ∀ i, dqNth qtX5_readSquare_0 (0 + i) = dqNth qtX5_readSquare_0 i := fun i => by rw [Nat.zero_add]
theorem qsX5_readSquare_1 : ∀ i, dqNth qtX5_readSquare_0 (16 + i) = dqNth qtX5_readSquare_1 i := dq_step qsX5_readSquare_0 rfl rfl
theorem qsX5_readSquare_2 : ∀ i, dqNth qtX5_readSquare_0 (32 + i) = dqNth qtX5_readSquare_2 i := dq_step qsX5_readSquare_1 rfl rfl
theorem qsX5_readSquare_3 : ∀ i, dqNth qtX5_readSquare_0 (48 + i) = dqNth qtX5_readSquare_3 i := dq_step qsX5_readSquare_2 rfl rfl
theorem qsX5_readSquare_4 : ∀ i, dqNth qtX5_readSquare_0 (64 + i) = dqNth qtX5_readSquare_4 i := dq_step qsX5_readSquare_3 rfl rfl
theorem qsX5_readSquare_5 : ∀ i, dqNth qtX5_readSquare_0 (80 + i) = dqNth qtX5_readSquare_5 i := dq_step qsX5_readSquare_4 rfl rfl
theorem qsX5_readSquare_6 : ∀ i, dqNth qtX5_readSquare_0 (96 + i) = dqNth qtX5_readSquare_6 i := dq_step qsX5_readSquare_5 rfl rfl
theorem qsX5_readSquare_7 : ∀ i, dqNth qtX5_readSquare_0 (112 + i) = dqNth qtX5_readSquare_7 i := dq_step qsX5_readSquare_6 rfl rfl
theorem qsX5_readSquare_8 : ∀ i, dqNth qtX5_readSquare_0 (128 + i) = dqNth qtX5_readSquare_8 i := dq_step qsX5_readSquare_7 rfl rfl
theorem qsX5_readSquare_9 : ∀ i, dqNth qtX5_readSquare_0 (144 + i) = dqNth qtX5_readSquare_9 i := dq_step qsX5_readSquare_8 rfl rfl
theorem qsX5_readSquare_10 : ∀ i, dqNth qtX5_readSquare_0 (160 + i) = dqNth qtX5_readSquare_10 i := dq_step qsX5_readSquare_9 rfl rfl
theorem qX5_readSquare_0 (i b : Nat) (h : dqNth qaX5_readSquare_0 i = some b) : DqBy cX5_readSquare (0 + i) b := dqBy_of qeX5_readSquare ((qsX5_readSquare_0 i).trans (dq_in h))
theorem qX5_readSquare_1 (i b : Nat) (h : dqNth qaX5_readSquare_1 i = some b) : DqBy cX5_readSquare (16 + i) b := dqBy_of qeX5_readSquare ((qsX5_readSquare_1 i).trans (dq_in h))
theorem qX5_readSquare_2 (i b : Nat) (h : dqNth qaX5_readSquare_2 i = some b) : DqBy cX5_readSquare (32 + i) b := dqBy_of qeX5_readSquare ((qsX5_readSquare_2 i).trans (dq_in h))
theorem qX5_readSquare_3 (i b : Nat) (h : dqNth qaX5_readSquare_3 i = some b) : DqBy cX5_readSquare (48 + i) b := dqBy_of qeX5_readSquare ((qsX5_readSquare_3 i).trans (dq_in h))
theorem qX5_readSquare_4 (i b : Nat) (h : dqNth qaX5_readSquare_4 i = some b) : DqBy cX5_readSquare (64 + i) b := dqBy_of qeX5_readSquare ((qsX5_readSquare_4 i).trans (dq_in h))
theorem qX5_readSquare_5 (i b : Nat) (h : dqNth qaX5_readSquare_5 i = some b) : DqBy cX5_readSquare (80 + i) b := dqBy_of qeX5_readSquare ((qsX5_readSquare_5 i).trans (dq_in h))
theorem qX5_readSquare_6 (i b : Nat) (h : dqNth qaX5_readSquare_6 i = some b) : DqBy cX5_readSquare (96 + i) b := dqBy_of qeX5_readSquare ((qsX5_readSquare_6 i).trans (dq_in h))
theorem qX5_readSquare_7 (i b : Nat) (h : dqNth qaX5_readSquare_7 i = some b) : DqBy cX5_readSquare (112 + i) b := dqBy_of qeX5_readSquare ((qsX5_readSquare_7 i).trans (dq_in h))
theorem qX5_readSquare_8 (i b : Nat) (h : dqNth qaX5_readSquare_8 i = some b) : DqBy cX5_readSquare (128 + i) b := dqBy_of qeX5_readSquare ((qsX5_readSquare_8 i).trans (dq_in h))
theorem qX5_readSquare_9 (i b : Nat) (h : dqNth qaX5_readSquare_9 i = some b) : DqBy cX5_readSquare (144 + i) b := dqBy_of qeX5_readSquare ((qsX5_readSquare_9 i).trans (dq_in h))
theorem qX5_readSquare_10 (i b : Nat) (h : dqNth qaX5_readSquare_10 i = some b) : DqBy cX5_readSquare (160 + i) b := dqBy_of qeX5_readSquare ((qsX5_readSquare_10 i).trans (dq_in h))
theorem dX5_readSquare_0 : decode cX5_readSquare 0 = .ok (.aload_n 0, 1) := @dq_o42 cX5_readSquare 0 (qX5_readSquare_0 0 42 rfl)
theorem dX5_readSquare_1 : decode cX5_readSquare 1 = .ok (.getfield 26, 3) := @dq_o180 cX5_readSquare 1 0 26 (qX5_readSquare_0 1 180 rfl) (qX5_readSquare_0 2 0 rfl) (qX5_readSquare_0 3 26 rfl)
theorem dX5_readSquare_4 : decode cX5_readSquare 4 = .ok (.iload_n 1, 1) := @dq_o27 cX5_readSquare 4 (qX5_readSquare_0 4 27 rfl)
theorem dX5_readSquare_5 : decode cX5_readSquare 5 = .ok (.aaload, 1) := @dq_o50 cX5_readSquare 5 (qX5_readSquare_0 5 50 rfl)
theorem dX5_readSquare_6 : decode cX5_readSquare 6 = .ok (.astore_n 2, 1) := @dq_o77 cX5_readSquare 6 (qX5_readSquare_0 6 77 rfl)
theorem dX5_readSquare_7 : decode cX5_readSquare 7 = .ok (.aload_n 0, 1) := @dq_o42 cX5_readSquare 7 (qX5_readSquare_0 7 42 rfl)
theorem dX5_readSquare_8 : decode cX5_readSquare 8 = .ok (.iload_n 1, 1) := @dq_o27 cX5_readSquare 8 (qX5_readSquare_0 8 27 rfl)
theorem dX5_readSquare_9 : decode cX5_readSquare 9 = .ok (.iconst 1, 1) := @dq_o4 cX5_readSquare 9 (qX5_readSquare_0 9 4 rfl)
theorem dX5_readSquare_10 : decode cX5_readSquare 10 = .ok (.iadd, 1) := @dq_o96 cX5_readSquare 10 (qX5_readSquare_0 10 96 rfl)
theorem dX5_readSquare_11 : decode cX5_readSquare 11 = .ok (.invokevirtual 65, 3) := @dq_o182 cX5_readSquare 11 0 65 (qX5_readSquare_0 11 182 rfl) (qX5_readSquare_0 12 0 rfl) (qX5_readSquare_0 13 65 rfl)
theorem dX5_readSquare_14 : decode cX5_readSquare 14 = .ok (.ifCond .ne 5, 3) := @dq_o154 cX5_readSquare 14 0 5 (qX5_readSquare_0 14 154 rfl) (qX5_readSquare_0 15 0 rfl) (qX5_readSquare_1 0 5 rfl)
theorem dX5_readSquare_17 : decode cX5_readSquare 17 = .ok (.iconst 0, 1) := @dq_o3 cX5_readSquare 17 (qX5_readSquare_1 1 3 rfl)
theorem dX5_readSquare_18 : decode cX5_readSquare 18 = .ok (.ireturn, 1) := @dq_o172 cX5_readSquare 18 (qX5_readSquare_1 2 172 rfl)
theorem dX5_readSquare_19 : decode cX5_readSquare 19 = .ok (.aload_n 0, 1) := @dq_o42 cX5_readSquare 19 (qX5_readSquare_1 3 42 rfl)
theorem dX5_readSquare_20 : decode cX5_readSquare 20 = .ok (.getfield 20, 3) := @dq_o180 cX5_readSquare 20 0 20 (qX5_readSquare_1 4 180 rfl) (qX5_readSquare_1 5 0 rfl) (qX5_readSquare_1 6 20 rfl)
theorem dX5_readSquare_23 : decode cX5_readSquare 23 = .ok (.iload_n 1, 1) := @dq_o27 cX5_readSquare 23 (qX5_readSquare_1 7 27 rfl)
theorem dX5_readSquare_24 : decode cX5_readSquare 24 = .ok (.iconst 1, 1) := @dq_o4 cX5_readSquare 24 (qX5_readSquare_1 8 4 rfl)
theorem dX5_readSquare_25 : decode cX5_readSquare 25 = .ok (.iadd, 1) := @dq_o96 cX5_readSquare 25 (qX5_readSquare_1 9 96 rfl)
theorem dX5_readSquare_26 : decode cX5_readSquare 26 = .ok (.aaload, 1) := @dq_o50 cX5_readSquare 26 (qX5_readSquare_1 10 50 rfl)
theorem dX5_readSquare_27 : decode cX5_readSquare 27 = .ok (.aload_n 2, 1) := @dq_o44 cX5_readSquare 27 (qX5_readSquare_1 11 44 rfl)
theorem dX5_readSquare_28 : decode cX5_readSquare 28 = .ok (.invokestatic 146, 3) := @dq_o184 cX5_readSquare 28 0 146 (qX5_readSquare_1 12 184 rfl) (qX5_readSquare_1 13 0 rfl) (qX5_readSquare_1 14 146 rfl)
theorem dX5_readSquare_31 : decode cX5_readSquare 31 = .ok (.aload_n 0, 1) := @dq_o42 cX5_readSquare 31 (qX5_readSquare_1 15 42 rfl)
theorem dX5_readSquare_32 : decode cX5_readSquare 32 = .ok (.invokevirtual 73, 3) := @dq_o182 cX5_readSquare 32 0 73 (qX5_readSquare_2 0 182 rfl) (qX5_readSquare_2 1 0 rfl) (qX5_readSquare_2 2 73 rfl)
theorem dX5_readSquare_35 : decode cX5_readSquare 35 = .ok (.bipush 44, 2) := @dq_o16 cX5_readSquare 35 44 (qX5_readSquare_2 3 16 rfl) (qX5_readSquare_2 4 44 rfl)
theorem dX5_readSquare_37 : decode cX5_readSquare 37 = .ok (.if_icmp .eq 13, 3) := @dq_o159 cX5_readSquare 37 0 13 (qX5_readSquare_2 5 159 rfl) (qX5_readSquare_2 6 0 rfl) (qX5_readSquare_2 7 13 rfl)
theorem dX5_readSquare_40 : decode cX5_readSquare 40 = .ok (.aload_n 0, 1) := @dq_o42 cX5_readSquare 40 (qX5_readSquare_2 8 42 rfl)
theorem dX5_readSquare_41 : decode cX5_readSquare 41 = .ok (.iconst 1, 1) := @dq_o4 cX5_readSquare 41 (qX5_readSquare_2 9 4 rfl)
theorem dX5_readSquare_42 : decode cX5_readSquare 42 = .ok (.aload_n 0, 1) := @dq_o42 cX5_readSquare 42 (qX5_readSquare_2 10 42 rfl)
theorem dX5_readSquare_43 : decode cX5_readSquare 43 = .ok (.getfield 36, 3) := @dq_o180 cX5_readSquare 43 0 36 (qX5_readSquare_2 11 180 rfl) (qX5_readSquare_2 12 0 rfl) (qX5_readSquare_2 13 36 rfl)
theorem dX5_readSquare_46 : decode cX5_readSquare 46 = .ok (.invokevirtual 69, 3) := @dq_o182 cX5_readSquare 46 0 69 (qX5_readSquare_2 14 182 rfl) (qX5_readSquare_2 15 0 rfl) (qX5_readSquare_3 0 69 rfl)
theorem dX5_readSquare_49 : decode cX5_readSquare 49 = .ok (.ireturn, 1) := @dq_o172 cX5_readSquare 49 (qX5_readSquare_3 1 172 rfl)
theorem dX5_readSquare_50 : decode cX5_readSquare 50 = .ok (.iconst 0, 1) := @dq_o3 cX5_readSquare 50 (qX5_readSquare_3 2 3 rfl)
theorem dX5_readSquare_51 : decode cX5_readSquare 51 = .ok (.istore_n 3, 1) := @dq_o62 cX5_readSquare 51 (qX5_readSquare_3 3 62 rfl)
theorem dX5_readSquare_52 : decode cX5_readSquare 52 = .ok (.iload_n 3, 1) := @dq_o29 cX5_readSquare 52 (qX5_readSquare_3 4 29 rfl)
theorem dX5_readSquare_53 : decode cX5_readSquare 53 = .ok (.sipush 200, 3) := @dq_o17 cX5_readSquare 53 0 200 (qX5_readSquare_3 5 17 rfl) (qX5_readSquare_3 6 0 rfl) (qX5_readSquare_3 7 200 rfl)
theorem dX5_readSquare_56 : decode cX5_readSquare 56 = .ok (.if_icmp .ge 77, 3) := @dq_o162 cX5_readSquare 56 0 77 (qX5_readSquare_3 8 162 rfl) (qX5_readSquare_3 9 0 rfl) (qX5_readSquare_3 10 77 rfl)
theorem dX5_readSquare_59 : decode cX5_readSquare 59 = .ok (.aload_n 0, 1) := @dq_o42 cX5_readSquare 59 (qX5_readSquare_3 11 42 rfl)
theorem dX5_readSquare_60 : decode cX5_readSquare 60 = .ok (.invokevirtual 73, 3) := @dq_o182 cX5_readSquare 60 0 73 (qX5_readSquare_3 12 182 rfl) (qX5_readSquare_3 13 0 rfl) (qX5_readSquare_3 14 73 rfl)
theorem dX5_readSquare_63 : decode cX5_readSquare 63 = .ok (.bipush 44, 2) := @dq_o16 cX5_readSquare 63 44 (qX5_readSquare_3 15 16 rfl) (qX5_readSquare_4 0 44 rfl)
theorem dX5_readSquare_65 : decode cX5_readSquare 65 = .ok (.if_icmp .ne 68, 3) := @dq_o160 cX5_readSquare 65 0 68 (qX5_readSquare_4 1 160 rfl) (qX5_readSquare_4 2 0 rfl) (qX5_readSquare_4 3 68 rfl)
theorem dX5_readSquare_68 : decode cX5_readSquare 68 = .ok (.aload_n 0, 1) := @dq_o42 cX5_readSquare 68 (qX5_readSquare_4 4 42 rfl)
theorem dX5_readSquare_69 : decode cX5_readSquare 69 = .ok (.dup, 1) := @dq_o89 cX5_readSquare 69 (qX5_readSquare_4 5 89 rfl)
theorem dX5_readSquare_70 : decode cX5_readSquare 70 = .ok (.getfield 36, 3) := @dq_o180 cX5_readSquare 70 0 36 (qX5_readSquare_4 6 180 rfl) (qX5_readSquare_4 7 0 rfl) (qX5_readSquare_4 8 36 rfl)
theorem dX5_readSquare_73 : decode cX5_readSquare 73 = .ok (.iconst 1, 1) := @dq_o4 cX5_readSquare 73 (qX5_readSquare_4 9 4 rfl)
theorem dX5_readSquare_74 : decode cX5_readSquare 74 = .ok (.iadd, 1) := @dq_o96 cX5_readSquare 74 (qX5_readSquare_4 10 96 rfl)
theorem dX5_readSquare_75 : decode cX5_readSquare 75 = .ok (.putfield 36, 3) := @dq_o181 cX5_readSquare 75 0 36 (qX5_readSquare_4 11 181 rfl) (qX5_readSquare_4 12 0 rfl) (qX5_readSquare_4 13 36 rfl)
theorem dX5_readSquare_78 : decode cX5_readSquare 78 = .ok (.aload_n 0, 1) := @dq_o42 cX5_readSquare 78 (qX5_readSquare_4 14 42 rfl)
theorem dX5_readSquare_79 : decode cX5_readSquare 79 = .ok (.iload_n 1, 1) := @dq_o27 cX5_readSquare 79 (qX5_readSquare_4 15 27 rfl)
theorem dX5_readSquare_80 : decode cX5_readSquare 80 = .ok (.iconst 1, 1) := @dq_o4 cX5_readSquare 80 (qX5_readSquare_5 0 4 rfl)
theorem dX5_readSquare_81 : decode cX5_readSquare 81 = .ok (.iadd, 1) := @dq_o96 cX5_readSquare 81 (qX5_readSquare_5 1 96 rfl)
theorem dX5_readSquare_82 : decode cX5_readSquare 82 = .ok (.invokevirtual 65, 3) := @dq_o182 cX5_readSquare 82 0 65 (qX5_readSquare_5 2 182 rfl) (qX5_readSquare_5 3 0 rfl) (qX5_readSquare_5 4 65 rfl)
theorem dX5_readSquare_85 : decode cX5_readSquare 85 = .ok (.ifCond .ne 5, 3) := @dq_o154 cX5_readSquare 85 0 5 (qX5_readSquare_5 5 154 rfl) (qX5_readSquare_5 6 0 rfl) (qX5_readSquare_5 7 5 rfl)
theorem dX5_readSquare_88 : decode cX5_readSquare 88 = .ok (.iconst 0, 1) := @dq_o3 cX5_readSquare 88 (qX5_readSquare_5 8 3 rfl)
theorem dX5_readSquare_89 : decode cX5_readSquare 89 = .ok (.ireturn, 1) := @dq_o172 cX5_readSquare 89 (qX5_readSquare_5 9 172 rfl)
theorem dX5_readSquare_90 : decode cX5_readSquare 90 = .ok (.aload_n 0, 1) := @dq_o42 cX5_readSquare 90 (qX5_readSquare_5 10 42 rfl)
theorem dX5_readSquare_91 : decode cX5_readSquare 91 = .ok (.getfield 46, 3) := @dq_o180 cX5_readSquare 91 0 46 (qX5_readSquare_5 11 180 rfl) (qX5_readSquare_5 12 0 rfl) (qX5_readSquare_5 13 46 rfl)
theorem dX5_readSquare_94 : decode cX5_readSquare 94 = .ok (.aload_n 2, 1) := @dq_o44 cX5_readSquare 94 (qX5_readSquare_5 14 44 rfl)
theorem dX5_readSquare_95 : decode cX5_readSquare 95 = .ok (.aload_n 2, 1) := @dq_o44 cX5_readSquare 95 (qX5_readSquare_5 15 44 rfl)
theorem dX5_readSquare_96 : decode cX5_readSquare 96 = .ok (.aload_n 0, 1) := @dq_o42 cX5_readSquare 96 (qX5_readSquare_6 0 42 rfl)
theorem dX5_readSquare_97 : decode cX5_readSquare 97 = .ok (.getfield 20, 3) := @dq_o180 cX5_readSquare 97 0 20 (qX5_readSquare_6 1 180 rfl) (qX5_readSquare_6 2 0 rfl) (qX5_readSquare_6 3 20 rfl)
theorem dX5_readSquare_100 : decode cX5_readSquare 100 = .ok (.iload_n 1, 1) := @dq_o27 cX5_readSquare 100 (qX5_readSquare_6 4 27 rfl)
theorem dX5_readSquare_101 : decode cX5_readSquare 101 = .ok (.iconst 1, 1) := @dq_o4 cX5_readSquare 101 (qX5_readSquare_6 5 4 rfl)
theorem dX5_readSquare_102 : decode cX5_readSquare 102 = .ok (.iadd, 1) := @dq_o96 cX5_readSquare 102 (qX5_readSquare_6 6 96 rfl)
theorem dX5_readSquare_103 : decode cX5_readSquare 103 = .ok (.aaload, 1) := @dq_o50 cX5_readSquare 103 (qX5_readSquare_6 7 50 rfl)
theorem dX5_readSquare_104 : decode cX5_readSquare 104 = .ok (.invokevirtual 150, 3) := @dq_o182 cX5_readSquare 104 0 150 (qX5_readSquare_6 8 182 rfl) (qX5_readSquare_6 9 0 rfl) (qX5_readSquare_6 10 150 rfl)
theorem dX5_readSquare_107 : decode cX5_readSquare 107 = .ok (.aload_n 2, 1) := @dq_o44 cX5_readSquare 107 (qX5_readSquare_6 11 44 rfl)
theorem dX5_readSquare_108 : decode cX5_readSquare 108 = .ok (.ldc2_w 102, 3) := @dq_o20 cX5_readSquare 108 0 102 (qX5_readSquare_6 12 20 rfl) (qX5_readSquare_6 13 0 rfl) (qX5_readSquare_6 14 102 rfl)
theorem dX5_readSquare_111 : decode cX5_readSquare 111 = .ok (.invokestatic 104, 3) := @dq_o184 cX5_readSquare 111 0 104 (qX5_readSquare_6 15 184 rfl) (qX5_readSquare_7 0 0 rfl) (qX5_readSquare_7 1 104 rfl)
theorem dX5_readSquare_114 : decode cX5_readSquare 114 = .ok (.ifCond .ne 13, 3) := @dq_o154 cX5_readSquare 114 0 13 (qX5_readSquare_7 2 154 rfl) (qX5_readSquare_7 3 0 rfl) (qX5_readSquare_7 4 13 rfl)
theorem dX5_readSquare_117 : decode cX5_readSquare 117 = .ok (.aload_n 0, 1) := @dq_o42 cX5_readSquare 117 (qX5_readSquare_7 5 42 rfl)
theorem dX5_readSquare_118 : decode cX5_readSquare 118 = .ok (.iconst 5, 1) := @dq_o8 cX5_readSquare 118 (qX5_readSquare_7 6 8 rfl)
theorem dX5_readSquare_119 : decode cX5_readSquare 119 = .ok (.aload_n 0, 1) := @dq_o42 cX5_readSquare 119 (qX5_readSquare_7 7 42 rfl)
theorem dX5_readSquare_120 : decode cX5_readSquare 120 = .ok (.getfield 39, 3) := @dq_o180 cX5_readSquare 120 0 39 (qX5_readSquare_7 8 180 rfl) (qX5_readSquare_7 9 0 rfl) (qX5_readSquare_7 10 39 rfl)
theorem dX5_readSquare_123 : decode cX5_readSquare 123 = .ok (.invokevirtual 69, 3) := @dq_o182 cX5_readSquare 123 0 69 (qX5_readSquare_7 11 182 rfl) (qX5_readSquare_7 12 0 rfl) (qX5_readSquare_7 13 69 rfl)
theorem dX5_readSquare_126 : decode cX5_readSquare 126 = .ok (.ireturn, 1) := @dq_o172 cX5_readSquare 126 (qX5_readSquare_7 14 172 rfl)
theorem dX5_readSquare_127 : decode cX5_readSquare 127 = .ok (.iinc 3 1, 3) := @dq_o132 cX5_readSquare 127 3 1 (qX5_readSquare_7 15 132 rfl) (qX5_readSquare_8 0 3 rfl) (qX5_readSquare_8 1 1 rfl)
theorem dX5_readSquare_130 : decode cX5_readSquare 130 = .ok (.goto (-78), 3) := @dq_o167 cX5_readSquare 130 255 178 (qX5_readSquare_8 2 167 rfl) (qX5_readSquare_8 3 255 rfl) (qX5_readSquare_8 4 178 rfl)
theorem dX5_readSquare_133 : decode cX5_readSquare 133 = .ok (.aload_n 0, 1) := @dq_o42 cX5_readSquare 133 (qX5_readSquare_8 5 42 rfl)
theorem dX5_readSquare_134 : decode cX5_readSquare 134 = .ok (.invokevirtual 73, 3) := @dq_o182 cX5_readSquare 134 0 73 (qX5_readSquare_8 6 182 rfl) (qX5_readSquare_8 7 0 rfl) (qX5_readSquare_8 8 73 rfl)
theorem dX5_readSquare_137 : decode cX5_readSquare 137 = .ok (.bipush 93, 2) := @dq_o16 cX5_readSquare 137 93 (qX5_readSquare_8 9 16 rfl) (qX5_readSquare_8 10 93 rfl)
theorem dX5_readSquare_139 : decode cX5_readSquare 139 = .ok (.if_icmp .eq 13, 3) := @dq_o159 cX5_readSquare 139 0 13 (qX5_readSquare_8 11 159 rfl) (qX5_readSquare_8 12 0 rfl) (qX5_readSquare_8 13 13 rfl)
theorem dX5_readSquare_142 : decode cX5_readSquare 142 = .ok (.aload_n 0, 1) := @dq_o42 cX5_readSquare 142 (qX5_readSquare_8 14 42 rfl)
theorem dX5_readSquare_143 : decode cX5_readSquare 143 = .ok (.iconst 1, 1) := @dq_o4 cX5_readSquare 143 (qX5_readSquare_8 15 4 rfl)
theorem dX5_readSquare_144 : decode cX5_readSquare 144 = .ok (.aload_n 0, 1) := @dq_o42 cX5_readSquare 144 (qX5_readSquare_9 0 42 rfl)
theorem dX5_readSquare_145 : decode cX5_readSquare 145 = .ok (.getfield 36, 3) := @dq_o180 cX5_readSquare 145 0 36 (qX5_readSquare_9 1 180 rfl) (qX5_readSquare_9 2 0 rfl) (qX5_readSquare_9 3 36 rfl)
theorem dX5_readSquare_148 : decode cX5_readSquare 148 = .ok (.invokevirtual 69, 3) := @dq_o182 cX5_readSquare 148 0 69 (qX5_readSquare_9 4 182 rfl) (qX5_readSquare_9 5 0 rfl) (qX5_readSquare_9 6 69 rfl)
theorem dX5_readSquare_151 : decode cX5_readSquare 151 = .ok (.ireturn, 1) := @dq_o172 cX5_readSquare 151 (qX5_readSquare_9 7 172 rfl)
theorem dX5_readSquare_152 : decode cX5_readSquare 152 = .ok (.aload_n 2, 1) := @dq_o44 cX5_readSquare 152 (qX5_readSquare_9 8 44 rfl)
theorem dX5_readSquare_153 : decode cX5_readSquare 153 = .ok (.aload_n 0, 1) := @dq_o42 cX5_readSquare 153 (qX5_readSquare_9 9 42 rfl)
theorem dX5_readSquare_154 : decode cX5_readSquare 154 = .ok (.getfield 23, 3) := @dq_o180 cX5_readSquare 154 0 23 (qX5_readSquare_9 10 180 rfl) (qX5_readSquare_9 11 0 rfl) (qX5_readSquare_9 12 23 rfl)
theorem dX5_readSquare_157 : decode cX5_readSquare 157 = .ok (.iload_n 1, 1) := @dq_o27 cX5_readSquare 157 (qX5_readSquare_9 13 27 rfl)
theorem dX5_readSquare_158 : decode cX5_readSquare 158 = .ok (.aaload, 1) := @dq_o50 cX5_readSquare 158 (qX5_readSquare_9 14 50 rfl)
theorem dX5_readSquare_159 : decode cX5_readSquare 159 = .ok (.invokestatic 146, 3) := @dq_o184 cX5_readSquare 159 0 146 (qX5_readSquare_9 15 184 rfl) (qX5_readSquare_10 0 0 rfl) (qX5_readSquare_10 1 146 rfl)
theorem dX5_readSquare_162 : decode cX5_readSquare 162 = .ok (.aload_n 0, 1) := @dq_o42 cX5_readSquare 162 (qX5_readSquare_10 2 42 rfl)
theorem dX5_readSquare_163 : decode cX5_readSquare 163 = .ok (.invokevirtual 136, 3) := @dq_o182 cX5_readSquare 163 0 136 (qX5_readSquare_10 3 182 rfl) (qX5_readSquare_10 4 0 rfl) (qX5_readSquare_10 5 136 rfl)
theorem dX5_readSquare_166 : decode cX5_readSquare 166 = .ok (.ireturn, 1) := @dq_o172 cX5_readSquare 166 (qX5_readSquare_10 6 172 rfl)
abbrev qaX5_readPower_0 : List Nat := [42, 182, 0, 83, 16, 94, 159, 0, 5, 4, 172, 42, 89, 180, 0, 36]
abbrev qaX5_readPower_1 : List Nat := [4, 96, 181, 0, 36, 42, 182, 0, 83, 16, 45, 160, 0, 7, 4, 167]
abbrev qaX5_readPower_2 : List Nat := [0, 4, 3, 61, 28, 153, 0, 13, 42, 89, 180, 0, 36, 4, 96, 181]
abbrev qaX5_readPower_3 : List Nat := [0, 36, 42, 182, 0, 83, 184, 0, 153, 154, 0, 13, 42, 4, 42, 180]
abbrev qaX5_readPower_4 : List Nat := [0, 36, 182, 0, 69, 172, 42, 180, 0, 36, 62, 3, 54, 4, 3, 54]
abbrev qaX5_readPower_5 : List Nat := [5, 21, 5, 17, 0, 200, 162, 0, 49, 42, 182, 0, 73, 184, 0, 153]
abbrev qaX5_readPower_6 : List Nat := [153, 0, 39, 21, 4, 16, 10, 104, 42, 182, 0, 73, 96, 16, 48, 100]
abbrev qaX5_readPower_7 : List Nat := [16, 100, 184, 0, 50, 54, 4, 42, 89, 180, 0, 36, 4, 96, 181, 0]
abbrev qaX5_readPower_8 : List Nat := [36, 132, 5, 1, 167, 255, 205, 21, 4, 16, 99, 164, 0, 10, 42, 5]
abbrev qaX5_readPower_9 : List Nat := [29, 182, 0, 69, 172, 42, 180, 0, 46, 43, 43, 28, 153, 0, 10, 21]
abbrev qaX5_readPower_10 : List Nat := [4, 116, 133, 167, 0, 6, 21, 4, 133, 182, 0, 156, 42, 42, 180, 0]
abbrev qaX5_readPower_11 : List Nat := [36, 181, 0, 39, 43, 20, 0, 102, 184, 0, 104, 154, 0, 15, 42, 8]
abbrev qaX5_readPower_12 : List Nat := [42, 180, 0, 36, 182, 0, 69, 153, 0, 7, 4, 167, 0, 4, 3, 172]
def qtX5_readPower_13 : List Nat := []
def qtX5_readPower_12 : List Nat := qaX5_readPower_12 ++ qtX5_readPower_13
def qtX5_readPower_11 : List Nat := qaX5_readPower_11 ++ qtX5_readPower_12
def qtX5_readPower_10 : List Nat := qaX5_readPower_10 ++ qtX5_readPower_11
def qtX5_readPower_9 : List Nat := qaX5_readPower_9 ++ qtX5_readPower_10
def qtX5_readPower_8 : List Nat := qaX5_readPower_8 ++ qtX5_readPower_9
def qtX5_readPower_7 : List Nat := qaX5_readPower_7 ++ qtX5_readPower_8
def qtX5_readPower_6 : List Nat := qaX5_readPower_6 ++ qtX5_readPower_7
def qtX5_readPower_5 : List Nat := qaX5_readPower_5 ++ qtX5_readPower_6
def qtX5_readPower_4 : List Nat := qaX5_readPower_4 ++ qtX5_readPower_5
def qtX5_readPower_3 : List Nat := qaX5_readPower_3 ++ qtX5_readPower_4
def qtX5_readPower_2 : List Nat := qaX5_readPower_2 ++ qtX5_readPower_3
def qtX5_readPower_1 : List Nat := qaX5_readPower_1 ++ qtX5_readPower_2
def qtX5_readPower_0 : List Nat := qaX5_readPower_0 ++ qtX5_readPower_1
theorem qeX5_readPower : cX5_readPower.data.toList.map UInt8.toNat = qtX5_readPower_0 := by decide +kernel
theorem qsX5_readPower_0 : ∀ i, dqNth qtX5_readPower_0 (0 + i) = dqNth qtX5_readPower_0 i := fun i => by rw [Nat.zero_add]
theorem qsX5_readPower_1 : ∀ i, dqNth qtX5_readPower_0 (16 + i) = dqNth qtX5_readPower_1 i := dq_step qsX5_readPower_0 rfl rfl
theorem qsX5_readPower_2 : ∀ i, dqNth qtX5_readPower_0 (32 + i) = dqNth qtX5_readPower_2 i := dq_step qsX5_readPower_1 rfl rfl
theorem qsX5_readPower_3 : ∀ i, dqNth qtX5_readPower_0 (48 + i) = dqNth qtX5_readPower_3 i := dq_step qsX5_readPower_2 rfl rfl
theorem qsX5_readPower_4 : ∀ i, dqNth qtX5_readPower_0 (64 + i) = dqNth qtX5_readPower_4 i := dq_step qsX5_readPower_3 rfl rfl
theorem qsX5_readPower_5 : ∀ i, dqNth qtX5_readPower_0 (80 + i) = dqNth qtX5_readPower_5 i := dq_step qsX5_readPower_4 rfl rfl
theorem qsX5_readPower_6 : ∀ i, dqNth qtX5_readPower_0 (96 + i) = dqNth qtX5_readPower_6 i := dq_step qsX5_readPower_5 rfl rfl
theorem qsX5_readPower_7 : ∀ i, dqNth qtX5_readPower_0 (112 + i) = dqNth qtX5_readPower_7 i := dq_step qsX5_readPower_6 rfl rfl
theorem qsX5_readPower_8 : ∀ i, dqNth qtX5_readPower_0 (128 + i) = dqNth qtX5_readPower_8 i := dq_step qsX5_readPower_7 rfl rfl
theorem qsX5_readPower_9 : ∀ i, dqNth qtX5_readPower_0 (144 + i) = dqNth qtX5_readPower_9 i := dq_step qsX5_readPower_8 rfl rfl
theorem qsX5_readPower_10 : ∀ i, dqNth qtX5_readPower_0 (160 + i) = dqNth qtX5_readPower_10 i := dq_step qsX5_readPower_9 rfl rfl
theorem qsX5_readPower_11 : ∀ i, dqNth qtX5_readPower_0 (176 + i) = dqNth qtX5_readPower_11 i := dq_step qsX5_readPower_10 rfl rfl
theorem qsX5_readPower_12 : ∀ i, dqNth qtX5_readPower_0 (192 + i) = dqNth qtX5_readPower_12 i := dq_step qsX5_readPower_11 rfl rfl
theorem qX5_readPower_0 (i b : Nat) (h : dqNth qaX5_readPower_0 i = some b) : DqBy cX5_readPower (0 + i) b := dqBy_of qeX5_readPower ((qsX5_readPower_0 i).trans (dq_in h))
theorem qX5_readPower_1 (i b : Nat) (h : dqNth qaX5_readPower_1 i = some b) : DqBy cX5_readPower (16 + i) b := dqBy_of qeX5_readPower ((qsX5_readPower_1 i).trans (dq_in h))
theorem qX5_readPower_2 (i b : Nat) (h : dqNth qaX5_readPower_2 i = some b) : DqBy cX5_readPower (32 + i) b := dqBy_of qeX5_readPower ((qsX5_readPower_2 i).trans (dq_in h))
theorem qX5_readPower_3 (i b : Nat) (h : dqNth qaX5_readPower_3 i = some b) : DqBy cX5_readPower (48 + i) b := dqBy_of qeX5_readPower ((qsX5_readPower_3 i).trans (dq_in h))
theorem qX5_readPower_4 (i b : Nat) (h : dqNth qaX5_readPower_4 i = some b) : DqBy cX5_readPower (64 + i) b := dqBy_of qeX5_readPower ((qsX5_readPower_4 i).trans (dq_in h))
theorem qX5_readPower_5 (i b : Nat) (h : dqNth qaX5_readPower_5 i = some b) : DqBy cX5_readPower (80 + i) b := dqBy_of qeX5_readPower ((qsX5_readPower_5 i).trans (dq_in h))
theorem qX5_readPower_6 (i b : Nat) (h : dqNth qaX5_readPower_6 i = some b) : DqBy cX5_readPower (96 + i) b := dqBy_of qeX5_readPower ((qsX5_readPower_6 i).trans (dq_in h))
theorem qX5_readPower_7 (i b : Nat) (h : dqNth qaX5_readPower_7 i = some b) : DqBy cX5_readPower (112 + i) b := dqBy_of qeX5_readPower ((qsX5_readPower_7 i).trans (dq_in h))
theorem qX5_readPower_8 (i b : Nat) (h : dqNth qaX5_readPower_8 i = some b) : DqBy cX5_readPower (128 + i) b := dqBy_of qeX5_readPower ((qsX5_readPower_8 i).trans (dq_in h))
theorem qX5_readPower_9 (i b : Nat) (h : dqNth qaX5_readPower_9 i = some b) : DqBy cX5_readPower (144 + i) b := dqBy_of qeX5_readPower ((qsX5_readPower_9 i).trans (dq_in h))
theorem qX5_readPower_10 (i b : Nat) (h : dqNth qaX5_readPower_10 i = some b) : DqBy cX5_readPower (160 + i) b := dqBy_of qeX5_readPower ((qsX5_readPower_10 i).trans (dq_in h))
theorem qX5_readPower_11 (i b : Nat) (h : dqNth qaX5_readPower_11 i = some b) : DqBy cX5_readPower (176 + i) b := dqBy_of qeX5_readPower ((qsX5_readPower_11 i).trans (dq_in h))
theorem qX5_readPower_12 (i b : Nat) (h : dqNth qaX5_readPower_12 i = some b) : DqBy cX5_readPower (192 + i) b := dqBy_of qeX5_readPower ((qsX5_readPower_12 i).trans (dq_in h))
theorem dX5_readPower_0 : decode cX5_readPower 0 = .ok (.aload_n 0, 1) := @dq_o42 cX5_readPower 0 (qX5_readPower_0 0 42 rfl)
theorem dX5_readPower_1 : decode cX5_readPower 1 = .ok (.invokevirtual 83, 3) := @dq_o182 cX5_readPower 1 0 83 (qX5_readPower_0 1 182 rfl) (qX5_readPower_0 2 0 rfl) (qX5_readPower_0 3 83 rfl)
theorem dX5_readPower_4 : decode cX5_readPower 4 = .ok (.bipush 94, 2) := @dq_o16 cX5_readPower 4 94 (qX5_readPower_0 4 16 rfl) (qX5_readPower_0 5 94 rfl)
theorem dX5_readPower_6 : decode cX5_readPower 6 = .ok (.if_icmp .eq 5, 3) := @dq_o159 cX5_readPower 6 0 5 (qX5_readPower_0 6 159 rfl) (qX5_readPower_0 7 0 rfl) (qX5_readPower_0 8 5 rfl)
theorem dX5_readPower_9 : decode cX5_readPower 9 = .ok (.iconst 1, 1) := @dq_o4 cX5_readPower 9 (qX5_readPower_0 9 4 rfl)
theorem dX5_readPower_10 : decode cX5_readPower 10 = .ok (.ireturn, 1) := @dq_o172 cX5_readPower 10 (qX5_readPower_0 10 172 rfl)
theorem dX5_readPower_11 : decode cX5_readPower 11 = .ok (.aload_n 0, 1) := @dq_o42 cX5_readPower 11 (qX5_readPower_0 11 42 rfl)
theorem dX5_readPower_12 : decode cX5_readPower 12 = .ok (.dup, 1) := @dq_o89 cX5_readPower 12 (qX5_readPower_0 12 89 rfl)
theorem dX5_readPower_13 : decode cX5_readPower 13 = .ok (.getfield 36, 3) := @dq_o180 cX5_readPower 13 0 36 (qX5_readPower_0 13 180 rfl) (qX5_readPower_0 14 0 rfl) (qX5_readPower_0 15 36 rfl)
theorem dX5_readPower_16 : decode cX5_readPower 16 = .ok (.iconst 1, 1) := @dq_o4 cX5_readPower 16 (qX5_readPower_1 0 4 rfl)
theorem dX5_readPower_17 : decode cX5_readPower 17 = .ok (.iadd, 1) := @dq_o96 cX5_readPower 17 (qX5_readPower_1 1 96 rfl)
theorem dX5_readPower_18 : decode cX5_readPower 18 = .ok (.putfield 36, 3) := @dq_o181 cX5_readPower 18 0 36 (qX5_readPower_1 2 181 rfl) (qX5_readPower_1 3 0 rfl) (qX5_readPower_1 4 36 rfl)
theorem dX5_readPower_21 : decode cX5_readPower 21 = .ok (.aload_n 0, 1) := @dq_o42 cX5_readPower 21 (qX5_readPower_1 5 42 rfl)
theorem dX5_readPower_22 : decode cX5_readPower 22 = .ok (.invokevirtual 83, 3) := @dq_o182 cX5_readPower 22 0 83 (qX5_readPower_1 6 182 rfl) (qX5_readPower_1 7 0 rfl) (qX5_readPower_1 8 83 rfl)
theorem dX5_readPower_25 : decode cX5_readPower 25 = .ok (.bipush 45, 2) := @dq_o16 cX5_readPower 25 45 (qX5_readPower_1 9 16 rfl) (qX5_readPower_1 10 45 rfl)
theorem dX5_readPower_27 : decode cX5_readPower 27 = .ok (.if_icmp .ne 7, 3) := @dq_o160 cX5_readPower 27 0 7 (qX5_readPower_1 11 160 rfl) (qX5_readPower_1 12 0 rfl) (qX5_readPower_1 13 7 rfl)
theorem dX5_readPower_30 : decode cX5_readPower 30 = .ok (.iconst 1, 1) := @dq_o4 cX5_readPower 30 (qX5_readPower_1 14 4 rfl)
theorem dX5_readPower_31 : decode cX5_readPower 31 = .ok (.goto 4, 3) := @dq_o167 cX5_readPower 31 0 4 (qX5_readPower_1 15 167 rfl) (qX5_readPower_2 0 0 rfl) (qX5_readPower_2 1 4 rfl)
theorem dX5_readPower_34 : decode cX5_readPower 34 = .ok (.iconst 0, 1) := @dq_o3 cX5_readPower 34 (qX5_readPower_2 2 3 rfl)
theorem dX5_readPower_35 : decode cX5_readPower 35 = .ok (.istore_n 2, 1) := @dq_o61 cX5_readPower 35 (qX5_readPower_2 3 61 rfl)
theorem dX5_readPower_36 : decode cX5_readPower 36 = .ok (.iload_n 2, 1) := @dq_o28 cX5_readPower 36 (qX5_readPower_2 4 28 rfl)
theorem dX5_readPower_37 : decode cX5_readPower 37 = .ok (.ifCond .eq 13, 3) := @dq_o153 cX5_readPower 37 0 13 (qX5_readPower_2 5 153 rfl) (qX5_readPower_2 6 0 rfl) (qX5_readPower_2 7 13 rfl)
theorem dX5_readPower_40 : decode cX5_readPower 40 = .ok (.aload_n 0, 1) := @dq_o42 cX5_readPower 40 (qX5_readPower_2 8 42 rfl)
theorem dX5_readPower_41 : decode cX5_readPower 41 = .ok (.dup, 1) := @dq_o89 cX5_readPower 41 (qX5_readPower_2 9 89 rfl)
theorem dX5_readPower_42 : decode cX5_readPower 42 = .ok (.getfield 36, 3) := @dq_o180 cX5_readPower 42 0 36 (qX5_readPower_2 10 180 rfl) (qX5_readPower_2 11 0 rfl) (qX5_readPower_2 12 36 rfl)
theorem dX5_readPower_45 : decode cX5_readPower 45 = .ok (.iconst 1, 1) := @dq_o4 cX5_readPower 45 (qX5_readPower_2 13 4 rfl)
theorem dX5_readPower_46 : decode cX5_readPower 46 = .ok (.iadd, 1) := @dq_o96 cX5_readPower 46 (qX5_readPower_2 14 96 rfl)
theorem dX5_readPower_47 : decode cX5_readPower 47 = .ok (.putfield 36, 3) := @dq_o181 cX5_readPower 47 0 36 (qX5_readPower_2 15 181 rfl) (qX5_readPower_3 0 0 rfl) (qX5_readPower_3 1 36 rfl)
theorem dX5_readPower_50 : decode cX5_readPower 50 = .ok (.aload_n 0, 1) := @dq_o42 cX5_readPower 50 (qX5_readPower_3 2 42 rfl)
theorem dX5_readPower_51 : decode cX5_readPower 51 = .ok (.invokevirtual 83, 3) := @dq_o182 cX5_readPower 51 0 83 (qX5_readPower_3 3 182 rfl) (qX5_readPower_3 4 0 rfl) (qX5_readPower_3 5 83 rfl)
theorem dX5_readPower_54 : decode cX5_readPower 54 = .ok (.invokestatic 153, 3) := @dq_o184 cX5_readPower 54 0 153 (qX5_readPower_3 6 184 rfl) (qX5_readPower_3 7 0 rfl) (qX5_readPower_3 8 153 rfl)
theorem dX5_readPower_57 : decode cX5_readPower 57 = .ok (.ifCond .ne 13, 3) := @dq_o154 cX5_readPower 57 0 13 (qX5_readPower_3 9 154 rfl) (qX5_readPower_3 10 0 rfl) (qX5_readPower_3 11 13 rfl)
theorem dX5_readPower_60 : decode cX5_readPower 60 = .ok (.aload_n 0, 1) := @dq_o42 cX5_readPower 60 (qX5_readPower_3 12 42 rfl)
theorem dX5_readPower_61 : decode cX5_readPower 61 = .ok (.iconst 1, 1) := @dq_o4 cX5_readPower 61 (qX5_readPower_3 13 4 rfl)
theorem dX5_readPower_62 : decode cX5_readPower 62 = .ok (.aload_n 0, 1) := @dq_o42 cX5_readPower 62 (qX5_readPower_3 14 42 rfl)
theorem dX5_readPower_63 : decode cX5_readPower 63 = .ok (.getfield 36, 3) := @dq_o180 cX5_readPower 63 0 36 (qX5_readPower_3 15 180 rfl) (qX5_readPower_4 0 0 rfl) (qX5_readPower_4 1 36 rfl)
theorem dX5_readPower_66 : decode cX5_readPower 66 = .ok (.invokevirtual 69, 3) := @dq_o182 cX5_readPower 66 0 69 (qX5_readPower_4 2 182 rfl) (qX5_readPower_4 3 0 rfl) (qX5_readPower_4 4 69 rfl)
theorem dX5_readPower_69 : decode cX5_readPower 69 = .ok (.ireturn, 1) := @dq_o172 cX5_readPower 69 (qX5_readPower_4 5 172 rfl)
theorem dX5_readPower_70 : decode cX5_readPower 70 = .ok (.aload_n 0, 1) := @dq_o42 cX5_readPower 70 (qX5_readPower_4 6 42 rfl)
theorem dX5_readPower_71 : decode cX5_readPower 71 = .ok (.getfield 36, 3) := @dq_o180 cX5_readPower 71 0 36 (qX5_readPower_4 7 180 rfl) (qX5_readPower_4 8 0 rfl) (qX5_readPower_4 9 36 rfl)
theorem dX5_readPower_74 : decode cX5_readPower 74 = .ok (.istore_n 3, 1) := @dq_o62 cX5_readPower 74 (qX5_readPower_4 10 62 rfl)
theorem dX5_readPower_75 : decode cX5_readPower 75 = .ok (.iconst 0, 1) := @dq_o3 cX5_readPower 75 (qX5_readPower_4 11 3 rfl)
theorem dX5_readPower_76 : decode cX5_readPower 76 = .ok (.istore 4, 2) := @dq_o54 cX5_readPower 76 4 (qX5_readPower_4 12 54 rfl) (qX5_readPower_4 13 4 rfl)
theorem dX5_readPower_78 : decode cX5_readPower 78 = .ok (.iconst 0, 1) := @dq_o3 cX5_readPower 78 (qX5_readPower_4 14 3 rfl)
theorem dX5_readPower_79 : decode cX5_readPower 79 = .ok (.istore 5, 2) := @dq_o54 cX5_readPower 79 5 (qX5_readPower_4 15 54 rfl) (qX5_readPower_5 0 5 rfl)
theorem dX5_readPower_81 : decode cX5_readPower 81 = .ok (.iload 5, 2) := @dq_o21 cX5_readPower 81 5 (qX5_readPower_5 1 21 rfl) (qX5_readPower_5 2 5 rfl)
theorem dX5_readPower_83 : decode cX5_readPower 83 = .ok (.sipush 200, 3) := @dq_o17 cX5_readPower 83 0 200 (qX5_readPower_5 3 17 rfl) (qX5_readPower_5 4 0 rfl) (qX5_readPower_5 5 200 rfl)
theorem dX5_readPower_86 : decode cX5_readPower 86 = .ok (.if_icmp .ge 49, 3) := @dq_o162 cX5_readPower 86 0 49 (qX5_readPower_5 6 162 rfl) (qX5_readPower_5 7 0 rfl) (qX5_readPower_5 8 49 rfl)
theorem dX5_readPower_89 : decode cX5_readPower 89 = .ok (.aload_n 0, 1) := @dq_o42 cX5_readPower 89 (qX5_readPower_5 9 42 rfl)
theorem dX5_readPower_90 : decode cX5_readPower 90 = .ok (.invokevirtual 73, 3) := @dq_o182 cX5_readPower 90 0 73 (qX5_readPower_5 10 182 rfl) (qX5_readPower_5 11 0 rfl) (qX5_readPower_5 12 73 rfl)
theorem dX5_readPower_93 : decode cX5_readPower 93 = .ok (.invokestatic 153, 3) := @dq_o184 cX5_readPower 93 0 153 (qX5_readPower_5 13 184 rfl) (qX5_readPower_5 14 0 rfl) (qX5_readPower_5 15 153 rfl)
theorem dX5_readPower_96 : decode cX5_readPower 96 = .ok (.ifCond .eq 39, 3) := @dq_o153 cX5_readPower 96 0 39 (qX5_readPower_6 0 153 rfl) (qX5_readPower_6 1 0 rfl) (qX5_readPower_6 2 39 rfl)
theorem dX5_readPower_99 : decode cX5_readPower 99 = .ok (.iload 4, 2) := @dq_o21 cX5_readPower 99 4 (qX5_readPower_6 3 21 rfl) (qX5_readPower_6 4 4 rfl)
theorem dX5_readPower_101 : decode cX5_readPower 101 = .ok (.bipush 10, 2) := @dq_o16 cX5_readPower 101 10 (qX5_readPower_6 5 16 rfl) (qX5_readPower_6 6 10 rfl)
theorem dX5_readPower_103 : decode cX5_readPower 103 = .ok (.imul, 1) := @dq_o104 cX5_readPower 103 (qX5_readPower_6 7 104 rfl)
theorem dX5_readPower_104 : decode cX5_readPower 104 = .ok (.aload_n 0, 1) := @dq_o42 cX5_readPower 104 (qX5_readPower_6 8 42 rfl)
theorem dX5_readPower_105 : decode cX5_readPower 105 = .ok (.invokevirtual 73, 3) := @dq_o182 cX5_readPower 105 0 73 (qX5_readPower_6 9 182 rfl) (qX5_readPower_6 10 0 rfl) (qX5_readPower_6 11 73 rfl)
theorem dX5_readPower_108 : decode cX5_readPower 108 = .ok (.iadd, 1) := @dq_o96 cX5_readPower 108 (qX5_readPower_6 12 96 rfl)
theorem dX5_readPower_109 : decode cX5_readPower 109 = .ok (.bipush 48, 2) := @dq_o16 cX5_readPower 109 48 (qX5_readPower_6 13 16 rfl) (qX5_readPower_6 14 48 rfl)
theorem dX5_readPower_111 : decode cX5_readPower 111 = .ok (.isub, 1) := @dq_o100 cX5_readPower 111 (qX5_readPower_6 15 100 rfl)
theorem dX5_readPower_112 : decode cX5_readPower 112 = .ok (.bipush 100, 2) := @dq_o16 cX5_readPower 112 100 (qX5_readPower_7 0 16 rfl) (qX5_readPower_7 1 100 rfl)
theorem dX5_readPower_114 : decode cX5_readPower 114 = .ok (.invokestatic 50, 3) := @dq_o184 cX5_readPower 114 0 50 (qX5_readPower_7 2 184 rfl) (qX5_readPower_7 3 0 rfl) (qX5_readPower_7 4 50 rfl)
theorem dX5_readPower_117 : decode cX5_readPower 117 = .ok (.istore 4, 2) := @dq_o54 cX5_readPower 117 4 (qX5_readPower_7 5 54 rfl) (qX5_readPower_7 6 4 rfl)
theorem dX5_readPower_119 : decode cX5_readPower 119 = .ok (.aload_n 0, 1) := @dq_o42 cX5_readPower 119 (qX5_readPower_7 7 42 rfl)
theorem dX5_readPower_120 : decode cX5_readPower 120 = .ok (.dup, 1) := @dq_o89 cX5_readPower 120 (qX5_readPower_7 8 89 rfl)
theorem dX5_readPower_121 : decode cX5_readPower 121 = .ok (.getfield 36, 3) := @dq_o180 cX5_readPower 121 0 36 (qX5_readPower_7 9 180 rfl) (qX5_readPower_7 10 0 rfl) (qX5_readPower_7 11 36 rfl)
theorem dX5_readPower_124 : decode cX5_readPower 124 = .ok (.iconst 1, 1) := @dq_o4 cX5_readPower 124 (qX5_readPower_7 12 4 rfl)
theorem dX5_readPower_125 : decode cX5_readPower 125 = .ok (.iadd, 1) := @dq_o96 cX5_readPower 125 (qX5_readPower_7 13 96 rfl)
theorem dX5_readPower_126 : decode cX5_readPower 126 = .ok (.putfield 36, 3) := @dq_o181 cX5_readPower 126 0 36 (qX5_readPower_7 14 181 rfl) (qX5_readPower_7 15 0 rfl) (qX5_readPower_8 0 36 rfl)
theorem dX5_readPower_129 : decode cX5_readPower 129 = .ok (.iinc 5 1, 3) := @dq_o132 cX5_readPower 129 5 1 (qX5_readPower_8 1 132 rfl) (qX5_readPower_8 2 5 rfl) (qX5_readPower_8 3 1 rfl)
theorem dX5_readPower_132 : decode cX5_readPower 132 = .ok (.goto (-51), 3) := @dq_o167 cX5_readPower 132 255 205 (qX5_readPower_8 4 167 rfl) (qX5_readPower_8 5 255 rfl) (qX5_readPower_8 6 205 rfl)
theorem dX5_readPower_135 : decode cX5_readPower 135 = .ok (.iload 4, 2) := @dq_o21 cX5_readPower 135 4 (qX5_readPower_8 7 21 rfl) (qX5_readPower_8 8 4 rfl)
theorem dX5_readPower_137 : decode cX5_readPower 137 = .ok (.bipush 99, 2) := @dq_o16 cX5_readPower 137 99 (qX5_readPower_8 9 16 rfl) (qX5_readPower_8 10 99 rfl)
theorem dX5_readPower_139 : decode cX5_readPower 139 = .ok (.if_icmp .le 10, 3) := @dq_o164 cX5_readPower 139 0 10 (qX5_readPower_8 11 164 rfl) (qX5_readPower_8 12 0 rfl) (qX5_readPower_8 13 10 rfl)
theorem dX5_readPower_142 : decode cX5_readPower 142 = .ok (.aload_n 0, 1) := @dq_o42 cX5_readPower 142 (qX5_readPower_8 14 42 rfl)
theorem dX5_readPower_143 : decode cX5_readPower 143 = .ok (.iconst 2, 1) := @dq_o5 cX5_readPower 143 (qX5_readPower_8 15 5 rfl)
theorem dX5_readPower_144 : decode cX5_readPower 144 = .ok (.iload_n 3, 1) := @dq_o29 cX5_readPower 144 (qX5_readPower_9 0 29 rfl)
theorem dX5_readPower_145 : decode cX5_readPower 145 = .ok (.invokevirtual 69, 3) := @dq_o182 cX5_readPower 145 0 69 (qX5_readPower_9 1 182 rfl) (qX5_readPower_9 2 0 rfl) (qX5_readPower_9 3 69 rfl)
theorem dX5_readPower_148 : decode cX5_readPower 148 = .ok (.ireturn, 1) := @dq_o172 cX5_readPower 148 (qX5_readPower_9 4 172 rfl)
theorem dX5_readPower_149 : decode cX5_readPower 149 = .ok (.aload_n 0, 1) := @dq_o42 cX5_readPower 149 (qX5_readPower_9 5 42 rfl)
theorem dX5_readPower_150 : decode cX5_readPower 150 = .ok (.getfield 46, 3) := @dq_o180 cX5_readPower 150 0 46 (qX5_readPower_9 6 180 rfl) (qX5_readPower_9 7 0 rfl) (qX5_readPower_9 8 46 rfl)
theorem dX5_readPower_153 : decode cX5_readPower 153 = .ok (.aload_n 1, 1) := @dq_o43 cX5_readPower 153 (qX5_readPower_9 9 43 rfl)
theorem dX5_readPower_154 : decode cX5_readPower 154 = .ok (.aload_n 1, 1) := @dq_o43 cX5_readPower 154 (qX5_readPower_9 10 43 rfl)
theorem dX5_readPower_155 : decode cX5_readPower 155 = .ok (.iload_n 2, 1) := @dq_o28 cX5_readPower 155 (qX5_readPower_9 11 28 rfl)
theorem dX5_readPower_156 : decode cX5_readPower 156 = .ok (.ifCond .eq 10, 3) := @dq_o153 cX5_readPower 156 0 10 (qX5_readPower_9 12 153 rfl) (qX5_readPower_9 13 0 rfl) (qX5_readPower_9 14 10 rfl)
theorem dX5_readPower_159 : decode cX5_readPower 159 = .ok (.iload 4, 2) := @dq_o21 cX5_readPower 159 4 (qX5_readPower_9 15 21 rfl) (qX5_readPower_10 0 4 rfl)
theorem dX5_readPower_161 : decode cX5_readPower 161 = .ok (.ineg, 1) := @dq_o116 cX5_readPower 161 (qX5_readPower_10 1 116 rfl)
theorem dX5_readPower_162 : decode cX5_readPower 162 = .ok (.i2l, 1) := @dq_o133 cX5_readPower 162 (qX5_readPower_10 2 133 rfl)
theorem dX5_readPower_163 : decode cX5_readPower 163 = .ok (.goto 6, 3) := @dq_o167 cX5_readPower 163 0 6 (qX5_readPower_10 3 167 rfl) (qX5_readPower_10 4 0 rfl) (qX5_readPower_10 5 6 rfl)
theorem dX5_readPower_166 : decode cX5_readPower 166 = .ok (.iload 4, 2) := @dq_o21 cX5_readPower 166 4 (qX5_readPower_10 6 21 rfl) (qX5_readPower_10 7 4 rfl)
theorem dX5_readPower_168 : decode cX5_readPower 168 = .ok (.i2l, 1) := @dq_o133 cX5_readPower 168 (qX5_readPower_10 8 133 rfl)
theorem dX5_readPower_169 : decode cX5_readPower 169 = .ok (.invokevirtual 156, 3) := @dq_o182 cX5_readPower 169 0 156 (qX5_readPower_10 9 182 rfl) (qX5_readPower_10 10 0 rfl) (qX5_readPower_10 11 156 rfl)
theorem dX5_readPower_172 : decode cX5_readPower 172 = .ok (.aload_n 0, 1) := @dq_o42 cX5_readPower 172 (qX5_readPower_10 12 42 rfl)
theorem dX5_readPower_173 : decode cX5_readPower 173 = .ok (.aload_n 0, 1) := @dq_o42 cX5_readPower 173 (qX5_readPower_10 13 42 rfl)
theorem dX5_readPower_174 : decode cX5_readPower 174 = .ok (.getfield 36, 3) := @dq_o180 cX5_readPower 174 0 36 (qX5_readPower_10 14 180 rfl) (qX5_readPower_10 15 0 rfl) (qX5_readPower_11 0 36 rfl)
theorem dX5_readPower_177 : decode cX5_readPower 177 = .ok (.putfield 39, 3) := @dq_o181 cX5_readPower 177 0 39 (qX5_readPower_11 1 181 rfl) (qX5_readPower_11 2 0 rfl) (qX5_readPower_11 3 39 rfl)
theorem dX5_readPower_180 : decode cX5_readPower 180 = .ok (.aload_n 1, 1) := @dq_o43 cX5_readPower 180 (qX5_readPower_11 4 43 rfl)
theorem dX5_readPower_181 : decode cX5_readPower 181 = .ok (.ldc2_w 102, 3) := @dq_o20 cX5_readPower 181 0 102 (qX5_readPower_11 5 20 rfl) (qX5_readPower_11 6 0 rfl) (qX5_readPower_11 7 102 rfl)
theorem dX5_readPower_184 : decode cX5_readPower 184 = .ok (.invokestatic 104, 3) := @dq_o184 cX5_readPower 184 0 104 (qX5_readPower_11 8 184 rfl) (qX5_readPower_11 9 0 rfl) (qX5_readPower_11 10 104 rfl)
theorem dX5_readPower_187 : decode cX5_readPower 187 = .ok (.ifCond .ne 15, 3) := @dq_o154 cX5_readPower 187 0 15 (qX5_readPower_11 11 154 rfl) (qX5_readPower_11 12 0 rfl) (qX5_readPower_11 13 15 rfl)
theorem dX5_readPower_190 : decode cX5_readPower 190 = .ok (.aload_n 0, 1) := @dq_o42 cX5_readPower 190 (qX5_readPower_11 14 42 rfl)
theorem dX5_readPower_191 : decode cX5_readPower 191 = .ok (.iconst 5, 1) := @dq_o8 cX5_readPower 191 (qX5_readPower_11 15 8 rfl)
theorem dX5_readPower_192 : decode cX5_readPower 192 = .ok (.aload_n 0, 1) := @dq_o42 cX5_readPower 192 (qX5_readPower_12 0 42 rfl)
theorem dX5_readPower_193 : decode cX5_readPower 193 = .ok (.getfield 36, 3) := @dq_o180 cX5_readPower 193 0 36 (qX5_readPower_12 1 180 rfl) (qX5_readPower_12 2 0 rfl) (qX5_readPower_12 3 36 rfl)
theorem dX5_readPower_196 : decode cX5_readPower 196 = .ok (.invokevirtual 69, 3) := @dq_o182 cX5_readPower 196 0 69 (qX5_readPower_12 4 182 rfl) (qX5_readPower_12 5 0 rfl) (qX5_readPower_12 6 69 rfl)
theorem dX5_readPower_199 : decode cX5_readPower 199 = .ok (.ifCond .eq 7, 3) := @dq_o153 cX5_readPower 199 0 7 (qX5_readPower_12 7 153 rfl) (qX5_readPower_12 8 0 rfl) (qX5_readPower_12 9 7 rfl)
theorem dX5_readPower_202 : decode cX5_readPower 202 = .ok (.iconst 1, 1) := @dq_o4 cX5_readPower 202 (qX5_readPower_12 10 4 rfl)
theorem dX5_readPower_203 : decode cX5_readPower 203 = .ok (.goto 4, 3) := @dq_o167 cX5_readPower 203 0 4 (qX5_readPower_12 11 167 rfl) (qX5_readPower_12 12 0 rfl) (qX5_readPower_12 13 4 rfl)
theorem dX5_readPower_206 : decode cX5_readPower 206 = .ok (.iconst 0, 1) := @dq_o3 cX5_readPower 206 (qX5_readPower_12 14 3 rfl)
theorem dX5_readPower_207 : decode cX5_readPower 207 = .ok (.ireturn, 1) := @dq_o172 cX5_readPower 207 (qX5_readPower_12 15 172 rfl)
abbrev qaX6_init_0 : List Nat := [42, 183, 0, 3, 42, 3, 181, 0, 9, 42, 16, 6, 188, 10, 181, 0]
abbrev qaX6_init_1 : List Nat := [15, 42, 17, 0, 216, 188, 10, 181, 0, 19, 177]
def qtX6_init_2 : List Nat := []
def qtX6_init_1 : List Nat := qaX6_init_1 ++ qtX6_init_2
def qtX6_init_0 : List Nat := qaX6_init_0 ++ qtX6_init_1
theorem qeX6_init : cX6_init.data.toList.map UInt8.toNat = qtX6_init_0 := by decide +kernel
theorem qsX6_init_0 : ∀ i, dqNth qtX6_init_0 (0 + i) = dqNth qtX6_init_0 i := fun i => by rw [Nat.zero_add]
theorem qsX6_init_1 : ∀ i, dqNth qtX6_init_0 (16 + i) = dqNth qtX6_init_1 i := dq_step qsX6_init_0 rfl rfl
theorem qX6_init_0 (i b : Nat) (h : dqNth qaX6_init_0 i = some b) : DqBy cX6_init (0 + i) b := dqBy_of qeX6_init ((qsX6_init_0 i).trans (dq_in h))
theorem qX6_init_1 (i b : Nat) (h : dqNth qaX6_init_1 i = some b) : DqBy cX6_init (16 + i) b := dqBy_of qeX6_init ((qsX6_init_1 i).trans (dq_in h))
theorem dX6_init_0 : decode cX6_init 0 = .ok (.aload_n 0, 1) := @dq_o42 cX6_init 0 (qX6_init_0 0 42 rfl)
theorem dX6_init_1 : decode cX6_init 1 = .ok (.invokespecial 3, 3) := @dq_o183 cX6_init 1 0 3 (qX6_init_0 1 183 rfl) (qX6_init_0 2 0 rfl) (qX6_init_0 3 3 rfl)
theorem dX6_init_4 : decode cX6_init 4 = .ok (.aload_n 0, 1) := @dq_o42 cX6_init 4 (qX6_init_0 4 42 rfl)
theorem dX6_init_5 : decode cX6_init 5 = .ok (.iconst 0, 1) := @dq_o3 cX6_init 5 (qX6_init_0 5 3 rfl)
theorem dX6_init_6 : decode cX6_init 6 = .ok (.putfield 9, 3) := @dq_o181 cX6_init 6 0 9 (qX6_init_0 6 181 rfl) (qX6_init_0 7 0 rfl) (qX6_init_0 8 9 rfl)
theorem dX6_init_9 : decode cX6_init 9 = .ok (.aload_n 0, 1) := @dq_o42 cX6_init 9 (qX6_init_0 9 42 rfl)
theorem dX6_init_10 : decode cX6_init 10 = .ok (.bipush 6, 2) := @dq_o16 cX6_init 10 6 (qX6_init_0 10 16 rfl) (qX6_init_0 11 6 rfl)
theorem dX6_init_12 : decode cX6_init 12 = .ok (.newarray .int, 2) := by decide +kernel
theorem dX6_init_14 : decode cX6_init 14 = .ok (.putfield 15, 3) := @dq_o181 cX6_init 14 0 15 (qX6_init_0 14 181 rfl) (qX6_init_0 15 0 rfl) (qX6_init_1 0 15 rfl)
theorem dX6_init_17 : decode cX6_init 17 = .ok (.aload_n 0, 1) := @dq_o42 cX6_init 17 (qX6_init_1 1 42 rfl)
theorem dX6_init_18 : decode cX6_init 18 = .ok (.sipush 216, 3) := @dq_o17 cX6_init 18 0 216 (qX6_init_1 2 17 rfl) (qX6_init_1 3 0 rfl) (qX6_init_1 4 216 rfl)
theorem dX6_init_21 : decode cX6_init 21 = .ok (.newarray .int, 2) := by decide +kernel
theorem dX6_init_23 : decode cX6_init 23 = .ok (.putfield 19, 3) := @dq_o181 cX6_init 23 0 19 (qX6_init_1 7 181 rfl) (qX6_init_1 8 0 rfl) (qX6_init_1 9 19 rfl)
theorem dX6_init_26 : decode cX6_init 26 = .ok (.return_, 1) := @dq_o177 cX6_init 26 (qX6_init_1 10 177 rfl)
abbrev qaX6_areWeights_0 : List Nat := [26, 4, 161, 0, 22, 26, 16, 6, 163, 0, 16, 27, 155, 0, 12, 27]
abbrev qaX6_areWeights_1 : List Nat := [4, 5, 26, 104, 120, 161, 0, 5, 3, 172, 4, 61, 3, 62, 29, 26]
abbrev qaX6_areWeights_2 : List Nat := [162, 0, 29, 27, 5, 29, 104, 122, 6, 126, 54, 4, 21, 4, 28, 162]
abbrev qaX6_areWeights_3 : List Nat := [0, 5, 3, 172, 21, 4, 61, 132, 3, 1, 167, 255, 228, 4, 172]
def qtX6_areWeights_4 : List Nat := []
def qtX6_areWeights_3 : List Nat := qaX6_areWeights_3 ++ qtX6_areWeights_4
def qtX6_areWeights_2 : List Nat := qaX6_areWeights_2 ++ qtX6_areWeights_3
def qtX6_areWeights_1 : List Nat := qaX6_areWeights_1 ++ qtX6_areWeights_2
def qtX6_areWeights_0 : List Nat := qaX6_areWeights_0 ++ qtX6_areWeights_1
theorem qeX6_areWeights : cX6_areWeights.data.toList.map UInt8.toNat = qtX6_areWeights_0 := by decide +kernel
theorem qsX6_areWeights_0 : ∀ i, dqNth qtX6_areWeights_0 (0 + i) = dqNth qtX6_areWeights_0 i := fun i => by rw [Nat.zero_add]
theorem qsX6_areWeights_1 : ∀ i, dqNth qtX6_areWeights_0 (16 + i) = dqNth qtX6_areWeights_1 i := dq_step qsX6_areWeights_0 rfl rfl
theorem qsX6_areWeights_2 : ∀ i, dqNth qtX6_areWeights_0 (32 + i) = dqNth qtX6_areWeights_2 i := dq_step qsX6_areWeights_1 rfl rfl
theorem qsX6_areWeights_3 : ∀ i, dqNth qtX6_areWeights_0 (48 + i) = dqNth qtX6_areWeights_3 i := dq_step qsX6_areWeights_2 rfl rfl
theorem qX6_areWeights_0 (i b : Nat) (h : dqNth qaX6_areWeights_0 i = some b) : DqBy cX6_areWeights (0 + i) b := dqBy_of qeX6_areWeights ((qsX6_areWeights_0 i).trans (dq_in h))
theorem qX6_areWeights_1 (i b : Nat) (h : dqNth qaX6_areWeights_1 i = some b) : DqBy cX6_areWeights (16 + i) b := dqBy_of qeX6_areWeights ((qsX6_areWeights_1 i).trans (dq_in h))
theorem qX6_areWeights_2 (i b : Nat) (h : dqNth qaX6_areWeights_2 i = some b) : DqBy cX6_areWeights (32 + i) b := dqBy_of qeX6_areWeights ((qsX6_areWeights_2 i).trans (dq_in h))
theorem qX6_areWeights_3 (i b : Nat) (h : dqNth qaX6_areWeights_3 i = some b) : DqBy cX6_areWeights (48 + i) b := dqBy_of qeX6_areWeights ((qsX6_areWeights_3 i).trans (dq_in h))
theorem dX6_areWeights_0 : decode cX6_areWeights 0 = .ok (.iload_n 0, 1) := @dq_o26 cX6_areWeights 0 (qX6_areWeights_0 0 26 rfl)
theorem dX6_areWeights_1 : decode cX6_areWeights 1 = .ok (.iconst 1, 1) := @dq_o4 cX6_areWeights 1 (qX6_areWeights_0 1 4 rfl)
theorem dX6_areWeights_2 : decode cX6_areWeights 2 = .ok (.if_icmp .lt 22, 3) := @dq_o161 cX6_areWeights 2 0 22 (qX6_areWeights_0 2 161 rfl) (qX6_areWeights_0 3 0 rfl) (qX6_areWeights_0 4 22 rfl)
theorem dX6_areWeights_5 : decode cX6_areWeights 5 = .ok (.iload_n 0, 1) := @dq_o26 cX6_areWeights 5 (qX6_areWeights_0 5 26 rfl)
theorem dX6_areWeights_6 : decode cX6_areWeights 6 = .ok (.bipush 6, 2) := @dq_o16 cX6_areWeights 6 6 (qX6_areWeights_0 6 16 rfl) (qX6_areWeights_0 7 6 rfl)
theorem dX6_areWeights_8 : decode cX6_areWeights 8 = .ok (.if_icmp .gt 16, 3) := @dq_o163 cX6_areWeights 8 0 16 (qX6_areWeights_0 8 163 rfl) (qX6_areWeights_0 9 0 rfl) (qX6_areWeights_0 10 16 rfl)
theorem dX6_areWeights_11 : decode cX6_areWeights 11 = .ok (.iload_n 1, 1) := @dq_o27 cX6_areWeights 11 (qX6_areWeights_0 11 27 rfl)
theorem dX6_areWeights_12 : decode cX6_areWeights 12 = .ok (.ifCond .lt 12, 3) := @dq_o155 cX6_areWeights 12 0 12 (qX6_areWeights_0 12 155 rfl) (qX6_areWeights_0 13 0 rfl) (qX6_areWeights_0 14 12 rfl)
theorem dX6_areWeights_15 : decode cX6_areWeights 15 = .ok (.iload_n 1, 1) := @dq_o27 cX6_areWeights 15 (qX6_areWeights_0 15 27 rfl)
theorem dX6_areWeights_16 : decode cX6_areWeights 16 = .ok (.iconst 1, 1) := @dq_o4 cX6_areWeights 16 (qX6_areWeights_1 0 4 rfl)
theorem dX6_areWeights_17 : decode cX6_areWeights 17 = .ok (.iconst 2, 1) := @dq_o5 cX6_areWeights 17 (qX6_areWeights_1 1 5 rfl)
theorem dX6_areWeights_18 : decode cX6_areWeights 18 = .ok (.iload_n 0, 1) := @dq_o26 cX6_areWeights 18 (qX6_areWeights_1 2 26 rfl)
theorem dX6_areWeights_19 : decode cX6_areWeights 19 = .ok (.imul, 1) := @dq_o104 cX6_areWeights 19 (qX6_areWeights_1 3 104 rfl)
theorem dX6_areWeights_20 : decode cX6_areWeights 20 = .ok (.ishl, 1) := @dq_o120 cX6_areWeights 20 (qX6_areWeights_1 4 120 rfl)
theorem dX6_areWeights_21 : decode cX6_areWeights 21 = .ok (.if_icmp .lt 5, 3) := @dq_o161 cX6_areWeights 21 0 5 (qX6_areWeights_1 5 161 rfl) (qX6_areWeights_1 6 0 rfl) (qX6_areWeights_1 7 5 rfl)
theorem dX6_areWeights_24 : decode cX6_areWeights 24 = .ok (.iconst 0, 1) := @dq_o3 cX6_areWeights 24 (qX6_areWeights_1 8 3 rfl)
theorem dX6_areWeights_25 : decode cX6_areWeights 25 = .ok (.ireturn, 1) := @dq_o172 cX6_areWeights 25 (qX6_areWeights_1 9 172 rfl)
theorem dX6_areWeights_26 : decode cX6_areWeights 26 = .ok (.iconst 1, 1) := @dq_o4 cX6_areWeights 26 (qX6_areWeights_1 10 4 rfl)
theorem dX6_areWeights_27 : decode cX6_areWeights 27 = .ok (.istore_n 2, 1) := @dq_o61 cX6_areWeights 27 (qX6_areWeights_1 11 61 rfl)
theorem dX6_areWeights_28 : decode cX6_areWeights 28 = .ok (.iconst 0, 1) := @dq_o3 cX6_areWeights 28 (qX6_areWeights_1 12 3 rfl)
theorem dX6_areWeights_29 : decode cX6_areWeights 29 = .ok (.istore_n 3, 1) := @dq_o62 cX6_areWeights 29 (qX6_areWeights_1 13 62 rfl)
theorem dX6_areWeights_30 : decode cX6_areWeights 30 = .ok (.iload_n 3, 1) := @dq_o29 cX6_areWeights 30 (qX6_areWeights_1 14 29 rfl)
theorem dX6_areWeights_31 : decode cX6_areWeights 31 = .ok (.iload_n 0, 1) := @dq_o26 cX6_areWeights 31 (qX6_areWeights_1 15 26 rfl)
theorem dX6_areWeights_32 : decode cX6_areWeights 32 = .ok (.if_icmp .ge 29, 3) := @dq_o162 cX6_areWeights 32 0 29 (qX6_areWeights_2 0 162 rfl) (qX6_areWeights_2 1 0 rfl) (qX6_areWeights_2 2 29 rfl)
theorem dX6_areWeights_35 : decode cX6_areWeights 35 = .ok (.iload_n 1, 1) := @dq_o27 cX6_areWeights 35 (qX6_areWeights_2 3 27 rfl)
theorem dX6_areWeights_36 : decode cX6_areWeights 36 = .ok (.iconst 2, 1) := @dq_o5 cX6_areWeights 36 (qX6_areWeights_2 4 5 rfl)
theorem dX6_areWeights_37 : decode cX6_areWeights 37 = .ok (.iload_n 3, 1) := @dq_o29 cX6_areWeights 37 (qX6_areWeights_2 5 29 rfl)
theorem dX6_areWeights_38 : decode cX6_areWeights 38 = .ok (.imul, 1) := @dq_o104 cX6_areWeights 38 (qX6_areWeights_2 6 104 rfl)
theorem dX6_areWeights_39 : decode cX6_areWeights 39 = .ok (.ishr, 1) := @dq_o122 cX6_areWeights 39 (qX6_areWeights_2 7 122 rfl)
theorem dX6_areWeights_40 : decode cX6_areWeights 40 = .ok (.iconst 3, 1) := @dq_o6 cX6_areWeights 40 (qX6_areWeights_2 8 6 rfl)
theorem dX6_areWeights_41 : decode cX6_areWeights 41 = .ok (.iand, 1) := @dq_o126 cX6_areWeights 41 (qX6_areWeights_2 9 126 rfl)
theorem dX6_areWeights_42 : decode cX6_areWeights 42 = .ok (.istore 4, 2) := @dq_o54 cX6_areWeights 42 4 (qX6_areWeights_2 10 54 rfl) (qX6_areWeights_2 11 4 rfl)
theorem dX6_areWeights_44 : decode cX6_areWeights 44 = .ok (.iload 4, 2) := @dq_o21 cX6_areWeights 44 4 (qX6_areWeights_2 12 21 rfl) (qX6_areWeights_2 13 4 rfl)
theorem dX6_areWeights_46 : decode cX6_areWeights 46 = .ok (.iload_n 2, 1) := @dq_o28 cX6_areWeights 46 (qX6_areWeights_2 14 28 rfl)
theorem dX6_areWeights_47 : decode cX6_areWeights 47 = .ok (.if_icmp .ge 5, 3) := @dq_o162 cX6_areWeights 47 0 5 (qX6_areWeights_2 15 162 rfl) (qX6_areWeights_3 0 0 rfl) (qX6_areWeights_3 1 5 rfl)
theorem dX6_areWeights_50 : decode cX6_areWeights 50 = .ok (.iconst 0, 1) := @dq_o3 cX6_areWeights 50 (qX6_areWeights_3 2 3 rfl)
theorem dX6_areWeights_51 : decode cX6_areWeights 51 = .ok (.ireturn, 1) := @dq_o172 cX6_areWeights 51 (qX6_areWeights_3 3 172 rfl)
theorem dX6_areWeights_52 : decode cX6_areWeights 52 = .ok (.iload 4, 2) := @dq_o21 cX6_areWeights 52 4 (qX6_areWeights_3 4 21 rfl) (qX6_areWeights_3 5 4 rfl)
theorem dX6_areWeights_54 : decode cX6_areWeights 54 = .ok (.istore_n 2, 1) := @dq_o61 cX6_areWeights 54 (qX6_areWeights_3 6 61 rfl)
theorem dX6_areWeights_55 : decode cX6_areWeights 55 = .ok (.iinc 3 1, 3) := @dq_o132 cX6_areWeights 55 3 1 (qX6_areWeights_3 7 132 rfl) (qX6_areWeights_3 8 3 rfl) (qX6_areWeights_3 9 1 rfl)
theorem dX6_areWeights_58 : decode cX6_areWeights 58 = .ok (.goto (-28), 3) := @dq_o167 cX6_areWeights 58 255 228 (qX6_areWeights_3 10 167 rfl) (qX6_areWeights_3 11 255 rfl) (qX6_areWeights_3 12 228 rfl)
theorem dX6_areWeights_61 : decode cX6_areWeights 61 = .ok (.iconst 1, 1) := @dq_o4 cX6_areWeights 61 (qX6_areWeights_3 13 4 rfl)
theorem dX6_areWeights_62 : decode cX6_areWeights 62 = .ok (.ireturn, 1) := @dq_o172 cX6_areWeights 62 (qX6_areWeights_3 14 172 rfl)
abbrev qaX6_reset_0 : List Nat := [42, 27, 181, 0, 9, 3, 62, 29, 16, 6, 162, 0, 22, 42, 180, 0]
abbrev qaX6_reset_1 : List Nat := [15, 29, 28, 5, 29, 104, 122, 6, 126, 79, 132, 3, 1, 167, 255, 234]
abbrev qaX6_reset_2 : List Nat := [42, 180, 0, 19, 3, 184, 0, 22, 177]
def qtX6_reset_3 : List Nat := []
def qtX6_reset_2 : List Nat := qaX6_reset_2 ++ qtX6_reset_3
def qtX6_reset_1 : List Nat := qaX6_reset_1 ++ qtX6_reset_2
def qtX6_reset_0 : List Nat := qaX6_reset_0 ++ qtX6_reset_1
theorem qeX6_reset : cX6_reset.data.toList.map UInt8.toNat = qtX6_reset_0 := by decide +kernel
theorem qsX6_reset_0 : ∀ i, dqNth qtX6_reset_0 (0 + i) = dqNth qtX6_reset_0 i := fun i => by rw [Nat.zero_add]
theorem qsX6_reset_1 : ∀ i, dqNth qtX6_reset_0 (16 + i) = dqNth qtX6_reset_1 i := dq_step qsX6_reset_0 rfl rfl
theorem qsX6_reset_2 : ∀ i, dqNth qtX6_reset_0 (32 + i) = dqNth qtX6_reset_2 i := dq_step qsX6_reset_1 rfl rfl
theorem qX6_reset_0 (i b : Nat) (h : dqNth qaX6_reset_0 i = some b) : DqBy cX6_reset (0 + i) b := dqBy_of qeX6_reset ((qsX6_reset_0 i).trans (dq_in h))
theorem qX6_reset_1 (i b : Nat) (h : dqNth qaX6_reset_1 i = some b) : DqBy cX6_reset (16 + i) b := dqBy_of qeX6_reset ((qsX6_reset_1 i).trans (dq_in h))
theorem qX6_reset_2 (i b : Nat) (h : dqNth qaX6_reset_2 i = some b) : DqBy cX6_reset (32 + i) b := dqBy_of qeX6_reset ((qsX6_reset_2 i).trans (dq_in h))
theorem dX6_reset_0 : decode cX6_reset 0 = .ok (.aload_n 0, 1) := @dq_o42 cX6_reset 0 (qX6_reset_0 0 42 rfl)
theorem dX6_reset_1 : decode cX6_reset 1 = .ok (.iload_n 1, 1) := @dq_o27 cX6_reset 1 (qX6_reset_0 1 27 rfl)
theorem dX6_reset_2 : decode cX6_reset 2 = .ok (.putfield 9, 3) := @dq_o181 cX6_reset 2 0 9 (qX6_reset_0 2 181 rfl) (qX6_reset_0 3 0 rfl) (qX6_reset_0 4 9 rfl)
theorem dX6_reset_5 : decode cX6_reset 5 = .ok (.iconst 0, 1) := @dq_o3 cX6_reset 5 (qX6_reset_0 5 3 rfl)
theorem dX6_reset_6 : decode cX6_reset 6 = .ok (.istore_n 3, 1) := @dq_o62 cX6_reset 6 (qX6_reset_0 6 62 rfl)
theorem dX6_reset_7 : decode cX6_reset 7 = .ok (.iload_n 3, 1) := @dq_o29 cX6_reset 7 (qX6_reset_0 7 29 rfl)
theorem dX6_reset_8 : decode cX6_reset 8 = .ok (.bipush 6, 2) := @dq_o16 cX6_reset 8 6 (qX6_reset_0 8 16 rfl) (qX6_reset_0 9 6 rfl)
theorem dX6_reset_10 : decode cX6_reset 10 = .ok (.if_icmp .ge 22, 3) := @dq_o162 cX6_reset 10 0 22 (qX6_reset_0 10 162 rfl) (qX6_reset_0 11 0 rfl) (qX6_reset_0 12 22 rfl)
theorem dX6_reset_13 : decode cX6_reset 13 = .ok (.aload_n 0, 1) := @dq_o42 cX6_reset 13 (qX6_reset_0 13 42 rfl)
theorem dX6_reset_14 : decode cX6_reset 14 = .ok (.getfield 15, 3) := @dq_o180 cX6_reset 14 0 15 (qX6_reset_0 14 180 rfl) (qX6_reset_0 15 0 rfl) (qX6_reset_1 0 15 rfl)
theorem dX6_reset_17 : decode cX6_reset 17 = .ok (.iload_n 3, 1) := @dq_o29 cX6_reset 17 (qX6_reset_1 1 29 rfl)
theorem dX6_reset_18 : decode cX6_reset 18 = .ok (.iload_n 2, 1) := @dq_o28 cX6_reset 18 (qX6_reset_1 2 28 rfl)
theorem dX6_reset_19 : decode cX6_reset 19 = .ok (.iconst 2, 1) := @dq_o5 cX6_reset 19 (qX6_reset_1 3 5 rfl)
theorem dX6_reset_20 : decode cX6_reset 20 = .ok (.iload_n 3, 1) := @dq_o29 cX6_reset 20 (qX6_reset_1 4 29 rfl)
theorem dX6_reset_21 : decode cX6_reset 21 = .ok (.imul, 1) := @dq_o104 cX6_reset 21 (qX6_reset_1 5 104 rfl)
theorem dX6_reset_22 : decode cX6_reset 22 = .ok (.ishr, 1) := @dq_o122 cX6_reset 22 (qX6_reset_1 6 122 rfl)
theorem dX6_reset_23 : decode cX6_reset 23 = .ok (.iconst 3, 1) := @dq_o6 cX6_reset 23 (qX6_reset_1 7 6 rfl)
theorem dX6_reset_24 : decode cX6_reset 24 = .ok (.iand, 1) := @dq_o126 cX6_reset 24 (qX6_reset_1 8 126 rfl)
theorem dX6_reset_25 : decode cX6_reset 25 = .ok (.iastore, 1) := @dq_o79 cX6_reset 25 (qX6_reset_1 9 79 rfl)
theorem dX6_reset_26 : decode cX6_reset 26 = .ok (.iinc 3 1, 3) := @dq_o132 cX6_reset 26 3 1 (qX6_reset_1 10 132 rfl) (qX6_reset_1 11 3 rfl) (qX6_reset_1 12 1 rfl)
theorem dX6_reset_29 : decode cX6_reset 29 = .ok (.goto (-22), 3) := @dq_o167 cX6_reset 29 255 234 (qX6_reset_1 13 167 rfl) (qX6_reset_1 14 255 rfl) (qX6_reset_1 15 234 rfl)
theorem dX6_reset_32 : decode cX6_reset 32 = .ok (.aload_n 0, 1) := @dq_o42 cX6_reset 32 (qX6_reset_2 0 42 rfl)
theorem dX6_reset_33 : decode cX6_reset 33 = .ok (.getfield 19, 3) := @dq_o180 cX6_reset 33 0 19 (qX6_reset_2 1 180 rfl) (qX6_reset_2 2 0 rfl) (qX6_reset_2 3 19 rfl)
theorem dX6_reset_36 : decode cX6_reset 36 = .ok (.iconst 0, 1) := @dq_o3 cX6_reset 36 (qX6_reset_2 4 3 rfl)
theorem dX6_reset_37 : decode cX6_reset 37 = .ok (.invokestatic 22, 3) := @dq_o184 cX6_reset 37 0 22 (qX6_reset_2 5 184 rfl) (qX6_reset_2 6 0 rfl) (qX6_reset_2 7 22 rfl)
theorem dX6_reset_40 : decode cX6_reset 40 = .ok (.return_, 1) := @dq_o177 cX6_reset 40 (qX6_reset_2 8 177 rfl)
abbrev qaX6_takeKind_0 : List Nat := [27, 155, 0, 19, 27, 178, 0, 28, 190, 162, 0, 11, 27, 178, 0, 31]
abbrev qaX6_takeKind_1 : List Nat := [190, 161, 0, 4, 177, 42, 178, 0, 28, 27, 46, 178, 0, 31, 27, 46]
abbrev qaX6_takeKind_2 : List Nat := [182, 0, 34, 3, 61, 28, 6, 96, 178, 0, 38, 190, 162, 0, 50, 178]
abbrev qaX6_takeKind_3 : List Nat := [0, 38, 28, 46, 27, 160, 0, 35, 42, 178, 0, 38, 28, 4, 96, 46]
abbrev qaX6_takeKind_4 : List Nat := [4, 100, 178, 0, 38, 28, 5, 96, 46, 4, 100, 178, 0, 38, 28, 6]
abbrev qaX6_takeKind_5 : List Nat := [96, 46, 4, 100, 4, 182, 0, 41, 132, 2, 4, 167, 255, 202, 177]
def qtX6_takeKind_6 : List Nat := []
def qtX6_takeKind_5 : List Nat := qaX6_takeKind_5 ++ qtX6_takeKind_6
def qtX6_takeKind_4 : List Nat := qaX6_takeKind_4 ++ qtX6_takeKind_5
def qtX6_takeKind_3 : List Nat := qaX6_takeKind_3 ++ qtX6_takeKind_4
def qtX6_takeKind_2 : List Nat := qaX6_takeKind_2 ++ qtX6_takeKind_3
def qtX6_takeKind_1 : List Nat := qaX6_takeKind_1 ++ qtX6_takeKind_2
def qtX6_takeKind_0 : List Nat := qaX6_takeKind_0 ++ qtX6_takeKind_1
theorem qeX6_takeKind : cX6_takeKind.data.toList.map UInt8.toNat = qtX6_takeKind_0 := by decide +kernel
theorem qsX6_takeKind_0 : ∀ i, dqNth qtX6_takeKind_0 (0 + i) = dqNth qtX6_takeKind_0 i := fun i => by rw [Nat.zero_add]
theorem qsX6_takeKind_1 : ∀ i, dqNth qtX6_takeKind_0 (16 + i) = dqNth qtX6_takeKind_1 i := dq_step qsX6_takeKind_0 rfl rfl
theorem qsX6_takeKind_2 : ∀ i, dqNth qtX6_takeKind_0 (32 + i) = dqNth qtX6_takeKind_2 i := dq_step qsX6_takeKind_1 rfl rfl
theorem qsX6_takeKind_3 : ∀ i, dqNth qtX6_takeKind_0 (48 + i) = dqNth qtX6_takeKind_3 i := dq_step qsX6_takeKind_2 rfl rfl
theorem qsX6_takeKind_4 : ∀ i, dqNth qtX6_takeKind_0 (64 + i) = dqNth qtX6_takeKind_4 i := dq_step qsX6_takeKind_3 rfl rfl
theorem qsX6_takeKind_5 : ∀ i, dqNth qtX6_takeKind_0 (80 + i) = dqNth qtX6_takeKind_5 i := dq_step qsX6_takeKind_4 rfl rfl
theorem qX6_takeKind_0 (i b : Nat) (h : dqNth qaX6_takeKind_0 i = some b) : DqBy cX6_takeKind (0 + i) b := dqBy_of qeX6_takeKind ((qsX6_takeKind_0 i).trans (dq_in h))
theorem qX6_takeKind_1 (i b : Nat) (h : dqNth qaX6_takeKind_1 i = some b) : DqBy cX6_takeKind (16 + i) b := dqBy_of qeX6_takeKind ((qsX6_takeKind_1 i).trans (dq_in h))
theorem qX6_takeKind_2 (i b : Nat) (h : dqNth qaX6_takeKind_2 i = some b) : DqBy cX6_takeKind (32 + i) b := dqBy_of qeX6_takeKind ((qsX6_takeKind_2 i).trans (dq_in h))
theorem qX6_takeKind_3 (i b : Nat) (h : dqNth qaX6_takeKind_3 i = some b) : DqBy cX6_takeKind (48 + i) b := dqBy_of qeX6_takeKind ((qsX6_takeKind_3 i).trans (dq_in h))
theorem qX6_takeKind_4 (i b : Nat) (h : dqNth qaX6_takeKind_4 i = some b) : DqBy cX6_takeKind (64 + i) b := dqBy_of qeX6_takeKind ((qsX6_takeKind_4 i).trans (dq_in h))
theorem qX6_takeKind_5 (i b : Nat) (h : dqNth qaX6_takeKind_5 i = some b) : DqBy cX6_takeKind (80 + i) b := dqBy_of qeX6_takeKind ((qsX6_takeKind_5 i).trans (dq_in h))
theorem dX6_takeKind_0 : decode cX6_takeKind 0 = .ok (.iload_n 1, 1) := @dq_o27 cX6_takeKind 0 (qX6_takeKind_0 0 27 rfl)
theorem dX6_takeKind_1 : decode cX6_takeKind 1 = .ok (.ifCond .lt 19, 3) := @dq_o155 cX6_takeKind 1 0 19 (qX6_takeKind_0 1 155 rfl) (qX6_takeKind_0 2 0 rfl) (qX6_takeKind_0 3 19 rfl)
theorem dX6_takeKind_4 : decode cX6_takeKind 4 = .ok (.iload_n 1, 1) := @dq_o27 cX6_takeKind 4 (qX6_takeKind_0 4 27 rfl)
theorem dX6_takeKind_5 : decode cX6_takeKind 5 = .ok (.getstatic 28, 3) := @dq_o178 cX6_takeKind 5 0 28 (qX6_takeKind_0 5 178 rfl) (qX6_takeKind_0 6 0 rfl) (qX6_takeKind_0 7 28 rfl)
theorem dX6_takeKind_8 : decode cX6_takeKind 8 = .ok (.arraylength, 1) := @dq_o190 cX6_takeKind 8 (qX6_takeKind_0 8 190 rfl)
theorem dX6_takeKind_9 : decode cX6_takeKind 9 = .ok (.if_icmp .ge 11, 3) := @dq_o162 cX6_takeKind 9 0 11 (qX6_takeKind_0 9 162 rfl) (qX6_takeKind_0 10 0 rfl) (qX6_takeKind_0 11 11 rfl)
theorem dX6_takeKind_12 : decode cX6_takeKind 12 = .ok (.iload_n 1, 1) := @dq_o27 cX6_takeKind 12 (qX6_takeKind_0 12 27 rfl)
theorem dX6_takeKind_13 : decode cX6_takeKind 13 = .ok (.getstatic 31, 3) := @dq_o178 cX6_takeKind 13 0 31 (qX6_takeKind_0 13 178 rfl) (qX6_takeKind_0 14 0 rfl) (qX6_takeKind_0 15 31 rfl)
theorem dX6_takeKind_16 : decode cX6_takeKind 16 = .ok (.arraylength, 1) := @dq_o190 cX6_takeKind 16 (qX6_takeKind_1 0 190 rfl)
theorem dX6_takeKind_17 : decode cX6_takeKind 17 = .ok (.if_icmp .lt 4, 3) := @dq_o161 cX6_takeKind 17 0 4 (qX6_takeKind_1 1 161 rfl) (qX6_takeKind_1 2 0 rfl) (qX6_takeKind_1 3 4 rfl)
theorem dX6_takeKind_20 : decode cX6_takeKind 20 = .ok (.return_, 1) := @dq_o177 cX6_takeKind 20 (qX6_takeKind_1 4 177 rfl)
theorem dX6_takeKind_21 : decode cX6_takeKind 21 = .ok (.aload_n 0, 1) := @dq_o42 cX6_takeKind 21 (qX6_takeKind_1 5 42 rfl)
theorem dX6_takeKind_22 : decode cX6_takeKind 22 = .ok (.getstatic 28, 3) := @dq_o178 cX6_takeKind 22 0 28 (qX6_takeKind_1 6 178 rfl) (qX6_takeKind_1 7 0 rfl) (qX6_takeKind_1 8 28 rfl)
theorem dX6_takeKind_25 : decode cX6_takeKind 25 = .ok (.iload_n 1, 1) := @dq_o27 cX6_takeKind 25 (qX6_takeKind_1 9 27 rfl)
theorem dX6_takeKind_26 : decode cX6_takeKind 26 = .ok (.iaload, 1) := @dq_o46 cX6_takeKind 26 (qX6_takeKind_1 10 46 rfl)
theorem dX6_takeKind_27 : decode cX6_takeKind 27 = .ok (.getstatic 31, 3) := @dq_o178 cX6_takeKind 27 0 31 (qX6_takeKind_1 11 178 rfl) (qX6_takeKind_1 12 0 rfl) (qX6_takeKind_1 13 31 rfl)
theorem dX6_takeKind_30 : decode cX6_takeKind 30 = .ok (.iload_n 1, 1) := @dq_o27 cX6_takeKind 30 (qX6_takeKind_1 14 27 rfl)
theorem dX6_takeKind_31 : decode cX6_takeKind 31 = .ok (.iaload, 1) := @dq_o46 cX6_takeKind 31 (qX6_takeKind_1 15 46 rfl)
theorem dX6_takeKind_32 : decode cX6_takeKind 32 = .ok (.invokevirtual 34, 3) := @dq_o182 cX6_takeKind 32 0 34 (qX6_takeKind_2 0 182 rfl) (qX6_takeKind_2 1 0 rfl) (qX6_takeKind_2 2 34 rfl)
theorem dX6_takeKind_35 : decode cX6_takeKind 35 = .ok (.iconst 0, 1) := @dq_o3 cX6_takeKind 35 (qX6_takeKind_2 3 3 rfl)
theorem dX6_takeKind_36 : decode cX6_takeKind 36 = .ok (.istore_n 2, 1) := @dq_o61 cX6_takeKind 36 (qX6_takeKind_2 4 61 rfl)
theorem dX6_takeKind_37 : decode cX6_takeKind 37 = .ok (.iload_n 2, 1) := @dq_o28 cX6_takeKind 37 (qX6_takeKind_2 5 28 rfl)
theorem dX6_takeKind_38 : decode cX6_takeKind 38 = .ok (.iconst 3, 1) := @dq_o6 cX6_takeKind 38 (qX6_takeKind_2 6 6 rfl)
theorem dX6_takeKind_39 : decode cX6_takeKind 39 = .ok (.iadd, 1) := @dq_o96 cX6_takeKind 39 (qX6_takeKind_2 7 96 rfl)
theorem dX6_takeKind_40 : decode cX6_takeKind 40 = .ok (.getstatic 38, 3) := @dq_o178 cX6_takeKind 40 0 38 (qX6_takeKind_2 8 178 rfl) (qX6_takeKind_2 9 0 rfl) (qX6_takeKind_2 10 38 rfl)
theorem dX6_takeKind_43 : decode cX6_takeKind 43 = .ok (.arraylength, 1) := @dq_o190 cX6_takeKind 43 (qX6_takeKind_2 11 190 rfl)
theorem dX6_takeKind_44 : decode cX6_takeKind 44 = .ok (.if_icmp .ge 50, 3) := @dq_o162 cX6_takeKind 44 0 50 (qX6_takeKind_2 12 162 rfl) (qX6_takeKind_2 13 0 rfl) (qX6_takeKind_2 14 50 rfl)
theorem dX6_takeKind_47 : decode cX6_takeKind 47 = .ok (.getstatic 38, 3) := @dq_o178 cX6_takeKind 47 0 38 (qX6_takeKind_2 15 178 rfl) (qX6_takeKind_3 0 0 rfl) (qX6_takeKind_3 1 38 rfl)
theorem dX6_takeKind_50 : decode cX6_takeKind 50 = .ok (.iload_n 2, 1) := @dq_o28 cX6_takeKind 50 (qX6_takeKind_3 2 28 rfl)
theorem dX6_takeKind_51 : decode cX6_takeKind 51 = .ok (.iaload, 1) := @dq_o46 cX6_takeKind 51 (qX6_takeKind_3 3 46 rfl)
theorem dX6_takeKind_52 : decode cX6_takeKind 52 = .ok (.iload_n 1, 1) := @dq_o27 cX6_takeKind 52 (qX6_takeKind_3 4 27 rfl)
theorem dX6_takeKind_53 : decode cX6_takeKind 53 = .ok (.if_icmp .ne 35, 3) := @dq_o160 cX6_takeKind 53 0 35 (qX6_takeKind_3 5 160 rfl) (qX6_takeKind_3 6 0 rfl) (qX6_takeKind_3 7 35 rfl)
theorem dX6_takeKind_56 : decode cX6_takeKind 56 = .ok (.aload_n 0, 1) := @dq_o42 cX6_takeKind 56 (qX6_takeKind_3 8 42 rfl)
theorem dX6_takeKind_57 : decode cX6_takeKind 57 = .ok (.getstatic 38, 3) := @dq_o178 cX6_takeKind 57 0 38 (qX6_takeKind_3 9 178 rfl) (qX6_takeKind_3 10 0 rfl) (qX6_takeKind_3 11 38 rfl)
theorem dX6_takeKind_60 : decode cX6_takeKind 60 = .ok (.iload_n 2, 1) := @dq_o28 cX6_takeKind 60 (qX6_takeKind_3 12 28 rfl)
theorem dX6_takeKind_61 : decode cX6_takeKind 61 = .ok (.iconst 1, 1) := @dq_o4 cX6_takeKind 61 (qX6_takeKind_3 13 4 rfl)
theorem dX6_takeKind_62 : decode cX6_takeKind 62 = .ok (.iadd, 1) := @dq_o96 cX6_takeKind 62 (qX6_takeKind_3 14 96 rfl)
theorem dX6_takeKind_63 : decode cX6_takeKind 63 = .ok (.iaload, 1) := @dq_o46 cX6_takeKind 63 (qX6_takeKind_3 15 46 rfl)
theorem dX6_takeKind_64 : decode cX6_takeKind 64 = .ok (.iconst 1, 1) := @dq_o4 cX6_takeKind 64 (qX6_takeKind_4 0 4 rfl)
theorem dX6_takeKind_65 : decode cX6_takeKind 65 = .ok (.isub, 1) := @dq_o100 cX6_takeKind 65 (qX6_takeKind_4 1 100 rfl)
theorem dX6_takeKind_66 : decode cX6_takeKind 66 = .ok (.getstatic 38, 3) := @dq_o178 cX6_takeKind 66 0 38 (qX6_takeKind_4 2 178 rfl) (qX6_takeKind_4 3 0 rfl) (qX6_takeKind_4 4 38 rfl)
theorem dX6_takeKind_69 : decode cX6_takeKind 69 = .ok (.iload_n 2, 1) := @dq_o28 cX6_takeKind 69 (qX6_takeKind_4 5 28 rfl)
theorem dX6_takeKind_70 : decode cX6_takeKind 70 = .ok (.iconst 2, 1) := @dq_o5 cX6_takeKind 70 (qX6_takeKind_4 6 5 rfl)
theorem dX6_takeKind_71 : decode cX6_takeKind 71 = .ok (.iadd, 1) := @dq_o96 cX6_takeKind 71 (qX6_takeKind_4 7 96 rfl)
theorem dX6_takeKind_72 : decode cX6_takeKind 72 = .ok (.iaload, 1) := @dq_o46 cX6_takeKind 72 (qX6_takeKind_4 8 46 rfl)
theorem dX6_takeKind_73 : decode cX6_takeKind 73 = .ok (.iconst 1, 1) := @dq_o4 cX6_takeKind 73 (qX6_takeKind_4 9 4 rfl)
theorem dX6_takeKind_74 : decode cX6_takeKind 74 = .ok (.isub, 1) := @dq_o100 cX6_takeKind 74 (qX6_takeKind_4 10 100 rfl)
theorem dX6_takeKind_75 : decode cX6_takeKind 75 = .ok (.getstatic 38, 3) := @dq_o178 cX6_takeKind 75 0 38 (qX6_takeKind_4 11 178 rfl) (qX6_takeKind_4 12 0 rfl) (qX6_takeKind_4 13 38 rfl)
theorem dX6_takeKind_78 : decode cX6_takeKind 78 = .ok (.iload_n 2, 1) := @dq_o28 cX6_takeKind 78 (qX6_takeKind_4 14 28 rfl)
theorem dX6_takeKind_79 : decode cX6_takeKind 79 = .ok (.iconst 3, 1) := @dq_o6 cX6_takeKind 79 (qX6_takeKind_4 15 6 rfl)
theorem dX6_takeKind_80 : decode cX6_takeKind 80 = .ok (.iadd, 1) := @dq_o96 cX6_takeKind 80 (qX6_takeKind_5 0 96 rfl)
theorem dX6_takeKind_81 : decode cX6_takeKind 81 = .ok (.iaload, 1) := @dq_o46 cX6_takeKind 81 (qX6_takeKind_5 1 46 rfl)
theorem dX6_takeKind_82 : decode cX6_takeKind 82 = .ok (.iconst 1, 1) := @dq_o4 cX6_takeKind 82 (qX6_takeKind_5 2 4 rfl)
theorem dX6_takeKind_83 : decode cX6_takeKind 83 = .ok (.isub, 1) := @dq_o100 cX6_takeKind 83 (qX6_takeKind_5 3 100 rfl)
theorem dX6_takeKind_84 : decode cX6_takeKind 84 = .ok (.iconst 1, 1) := @dq_o4 cX6_takeKind 84 (qX6_takeKind_5 4 4 rfl)
theorem dX6_takeKind_85 : decode cX6_takeKind 85 = .ok (.invokevirtual 41, 3) := @dq_o182 cX6_takeKind 85 0 41 (qX6_takeKind_5 5 182 rfl) (qX6_takeKind_5 6 0 rfl) (qX6_takeKind_5 7 41 rfl)
theorem dX6_takeKind_88 : decode cX6_takeKind 88 = .ok (.iinc 2 4, 3) := @dq_o132 cX6_takeKind 88 2 4 (qX6_takeKind_5 8 132 rfl) (qX6_takeKind_5 9 2 rfl) (qX6_takeKind_5 10 4 rfl)
theorem dX6_takeKind_91 : decode cX6_takeKind 91 = .ok (.goto (-54), 3) := @dq_o167 cX6_takeKind 91 255 202 (qX6_takeKind_5 11 167 rfl) (qX6_takeKind_5 12 255 rfl) (qX6_takeKind_5 13 202 rfl)
theorem dX6_takeKind_94 : decode cX6_takeKind 94 = .ok (.return_, 1) := @dq_o177 cX6_takeKind 94 (qX6_takeKind_5 14 177 rfl)
abbrev qaX6_takeAll_0 : List Nat := [42, 43, 180, 0, 9, 181, 0, 9, 43, 180, 0, 15, 3, 42, 180, 0]
abbrev qaX6_takeAll_1 : List Nat := [15, 3, 42, 180, 0, 15, 190, 184, 0, 45, 43, 180, 0, 19, 3, 42]
abbrev qaX6_takeAll_2 : List Nat := [180, 0, 19, 3, 42, 180, 0, 19, 190, 184, 0, 45, 177]
def qtX6_takeAll_3 : List Nat := []
def qtX6_takeAll_2 : List Nat := qaX6_takeAll_2 ++ qtX6_takeAll_3
def qtX6_takeAll_1 : List Nat := qaX6_takeAll_1 ++ qtX6_takeAll_2
def qtX6_takeAll_0 : List Nat := qaX6_takeAll_0 ++ qtX6_takeAll_1
theorem qeX6_takeAll : cX6_takeAll.data.toList.map UInt8.toNat = qtX6_takeAll_0 := by decide +kernel
theorem qsX6_takeAll_0 : ∀ i, dqNth qtX6_takeAll_0 (0 + i) = dqNth qtX6_takeAll_0 i := fun i => by rw [Nat.zero_add]
theorem qsX6_takeAll_1 : ∀ i, dqNth qtX6_takeAll_0 (16 + i) = dqNth qtX6_takeAll_1 i := dq_step qsX6_takeAll_0 rfl rfl
theorem qsX6_takeAll_2 : ∀ i, dqNth qtX6_takeAll_0 (32 + i) = dqNth qtX6_takeAll_2 i := dq_step qsX6_takeAll_1 rfl rfl
theorem qX6_takeAll_0 (i b : Nat) (h : dqNth qaX6_takeAll_0 i = some b) : DqBy cX6_takeAll (0 + i) b := dqBy_of qeX6_takeAll ((qsX6_takeAll_0 i).trans (dq_in h))
theorem qX6_takeAll_1 (i b : Nat) (h : dqNth qaX6_takeAll_1 i = some b) : DqBy cX6_takeAll (16 + i) b := dqBy_of qeX6_takeAll ((qsX6_takeAll_1 i).trans (dq_in h))
theorem qX6_takeAll_2 (i b : Nat) (h : dqNth qaX6_takeAll_2 i = some b) : DqBy cX6_takeAll (32 + i) b := dqBy_of qeX6_takeAll ((qsX6_takeAll_2 i).trans (dq_in h))
theorem dX6_takeAll_0 : decode cX6_takeAll 0 = .ok (.aload_n 0, 1) := @dq_o42 cX6_takeAll 0 (qX6_takeAll_0 0 42 rfl)
theorem dX6_takeAll_1 : decode cX6_takeAll 1 = .ok (.aload_n 1, 1) := @dq_o43 cX6_takeAll 1 (qX6_takeAll_0 1 43 rfl)
theorem dX6_takeAll_2 : decode cX6_takeAll 2 = .ok (.getfield 9, 3) := @dq_o180 cX6_takeAll 2 0 9 (qX6_takeAll_0 2 180 rfl) (qX6_takeAll_0 3 0 rfl) (qX6_takeAll_0 4 9 rfl)
theorem dX6_takeAll_5 : decode cX6_takeAll 5 = .ok (.putfield 9, 3) := @dq_o181 cX6_takeAll 5 0 9 (qX6_takeAll_0 5 181 rfl) (qX6_takeAll_0 6 0 rfl) (qX6_takeAll_0 7 9 rfl)
theorem dX6_takeAll_8 : decode cX6_takeAll 8 = .ok (.aload_n 1, 1) := @dq_o43 cX6_takeAll 8 (qX6_takeAll_0 8 43 rfl)
theorem dX6_takeAll_9 : decode cX6_takeAll 9 = .ok (.getfield 15, 3) := @dq_o180 cX6_takeAll 9 0 15 (qX6_takeAll_0 9 180 rfl) (qX6_takeAll_0 10 0 rfl) (qX6_takeAll_0 11 15 rfl)
theorem dX6_takeAll_12 : decode cX6_takeAll 12 = .ok (.iconst 0, 1) := @dq_o3 cX6_takeAll 12 (qX6_takeAll_0 12 3 rfl)
theorem dX6_takeAll_13 : decode cX6_takeAll 13 = .ok (.aload_n 0, 1) := @dq_o42 cX6_takeAll 13 (qX6_takeAll_0 13 42 rfl)
theorem dX6_takeAll_14 : decode cX6_takeAll 14 = .ok (.getfield 15, 3) := @dq_o180 cX6_takeAll 14 0 15 (qX6_takeAll_0 14 180 rfl) (qX6_takeAll_0 15 0 rfl) (qX6_takeAll_1 0 15 rfl)
theorem dX6_takeAll_17 : decode cX6_takeAll 17 = .ok (.iconst 0, 1) := @dq_o3 cX6_takeAll 17 (qX6_takeAll_1 1 3 rfl)
theorem dX6_takeAll_18 : decode cX6_takeAll 18 = .ok (.aload_n 0, 1) := @dq_o42 cX6_takeAll 18 (qX6_takeAll_1 2 42 rfl)
theorem dX6_takeAll_19 : decode cX6_takeAll 19 = .ok (.getfield 15, 3) := @dq_o180 cX6_takeAll 19 0 15 (qX6_takeAll_1 3 180 rfl) (qX6_takeAll_1 4 0 rfl) (qX6_takeAll_1 5 15 rfl)
theorem dX6_takeAll_22 : decode cX6_takeAll 22 = .ok (.arraylength, 1) := @dq_o190 cX6_takeAll 22 (qX6_takeAll_1 6 190 rfl)
theorem dX6_takeAll_23 : decode cX6_takeAll 23 = .ok (.invokestatic 45, 3) := @dq_o184 cX6_takeAll 23 0 45 (qX6_takeAll_1 7 184 rfl) (qX6_takeAll_1 8 0 rfl) (qX6_takeAll_1 9 45 rfl)
theorem dX6_takeAll_26 : decode cX6_takeAll 26 = .ok (.aload_n 1, 1) := @dq_o43 cX6_takeAll 26 (qX6_takeAll_1 10 43 rfl)
theorem dX6_takeAll_27 : decode cX6_takeAll 27 = .ok (.getfield 19, 3) := @dq_o180 cX6_takeAll 27 0 19 (qX6_takeAll_1 11 180 rfl) (qX6_takeAll_1 12 0 rfl) (qX6_takeAll_1 13 19 rfl)
theorem dX6_takeAll_30 : decode cX6_takeAll 30 = .ok (.iconst 0, 1) := @dq_o3 cX6_takeAll 30 (qX6_takeAll_1 14 3 rfl)
theorem dX6_takeAll_31 : decode cX6_takeAll 31 = .ok (.aload_n 0, 1) := @dq_o42 cX6_takeAll 31 (qX6_takeAll_1 15 42 rfl)
theorem dX6_takeAll_32 : decode cX6_takeAll 32 = .ok (.getfield 19, 3) := @dq_o180 cX6_takeAll 32 0 19 (qX6_takeAll_2 0 180 rfl) (qX6_takeAll_2 1 0 rfl) (qX6_takeAll_2 2 19 rfl)
theorem dX6_takeAll_35 : decode cX6_takeAll 35 = .ok (.iconst 0, 1) := @dq_o3 cX6_takeAll 35 (qX6_takeAll_2 3 3 rfl)
theorem dX6_takeAll_36 : decode cX6_takeAll 36 = .ok (.aload_n 0, 1) := @dq_o42 cX6_takeAll 36 (qX6_takeAll_2 4 42 rfl)
theorem dX6_takeAll_37 : decode cX6_takeAll 37 = .ok (.getfield 19, 3) := @dq_o180 cX6_takeAll 37 0 19 (qX6_takeAll_2 5 180 rfl) (qX6_takeAll_2 6 0 rfl) (qX6_takeAll_2 7 19 rfl)
theorem dX6_takeAll_40 : decode cX6_takeAll 40 = .ok (.arraylength, 1) := @dq_o190 cX6_takeAll 40 (qX6_takeAll_2 8 190 rfl)
theorem dX6_takeAll_41 : decode cX6_takeAll 41 = .ok (.invokestatic 45, 3) := @dq_o184 cX6_takeAll 41 0 45 (qX6_takeAll_2 9 184 rfl) (qX6_takeAll_2 10 0 rfl) (qX6_takeAll_2 11 45 rfl)
theorem dX6_takeAll_44 : decode cX6_takeAll 44 = .ok (.return_, 1) := @dq_o177 cX6_takeAll 44 (qX6_takeAll_2 12 177 rfl)
abbrev qaX6_isSame_0 : List Nat := [42, 180, 0, 9, 43, 180, 0, 9, 159, 0, 5, 3, 172, 3, 61, 28]
abbrev qaX6_isSame_1 : List Nat := [42, 180, 0, 15, 190, 162, 0, 26, 42, 180, 0, 15, 28, 46, 43, 180]
abbrev qaX6_isSame_2 : List Nat := [0, 15, 28, 46, 159, 0, 5, 3, 172, 132, 2, 1, 167, 255, 227, 3]
abbrev qaX6_isSame_3 : List Nat := [61, 28, 42, 180, 0, 19, 190, 162, 0, 26, 42, 180, 0, 19, 28, 46]
abbrev qaX6_isSame_4 : List Nat := [43, 180, 0, 19, 28, 46, 159, 0, 5, 3, 172, 132, 2, 1, 167, 255]
abbrev qaX6_isSame_5 : List Nat := [227, 4, 172]
def qtX6_isSame_6 : List Nat := []
def qtX6_isSame_5 : List Nat := qaX6_isSame_5 ++ qtX6_isSame_6
def qtX6_isSame_4 : List Nat := qaX6_isSame_4 ++ qtX6_isSame_5
def qtX6_isSame_3 : List Nat := qaX6_isSame_3 ++ qtX6_isSame_4
def qtX6_isSame_2 : List Nat := qaX6_isSame_2 ++ qtX6_isSame_3
def qtX6_isSame_1 : List Nat := qaX6_isSame_1 ++ qtX6_isSame_2
def qtX6_isSame_0 : List Nat := qaX6_isSame_0 ++ qtX6_isSame_1
theorem qeX6_isSame : cX6_isSame.data.toList.map UInt8.toNat = qtX6_isSame_0 := by decide +kernel
theorem qsX6_isSame_0 : ∀ i, dqNth qtX6_isSame_0 (0 + i) = dqNth qtX6_isSame_0 i := fun i => by rw [Nat.zero_add]
theorem qsX6_isSame_1 : ∀ i, dqNth qtX6_isSame_0 (16 + i) = dqNth qtX6_isSame_1 i := dq_step qsX6_isSame_0 rfl rfl
theorem qsX6_isSame_2 : ∀ i, dqNth qtX6_isSame_0 (32 + i) = dqNth qtX6_isSame_2 i := dq_step qsX6_isSame_1 rfl rfl
theorem qsX6_isSame_3 : ∀ i, dqNth qtX6_isSame_0 (48 + i) = dqNth qtX6_isSame_3 i := dq_step qsX6_isSame_2 rfl rfl
theorem qsX6_isSame_4 : ∀ i, dqNth qtX6_isSame_0 (64 + i) = dqNth qtX6_isSame_4 i := dq_step qsX6_isSame_3 rfl rfl
theorem qsX6_isSame_5 : ∀ i, dqNth qtX6_isSame_0 (80 + i) = dqNth qtX6_isSame_5 i := dq_step qsX6_isSame_4 rfl rfl
theorem qX6_isSame_0 (i b : Nat) (h : dqNth qaX6_isSame_0 i = some b) : DqBy cX6_isSame (0 + i) b := dqBy_of qeX6_isSame ((qsX6_isSame_0 i).trans (dq_in h))
theorem qX6_isSame_1 (i b : Nat) (h : dqNth qaX6_isSame_1 i = some b) : DqBy cX6_isSame (16 + i) b := dqBy_of qeX6_isSame ((qsX6_isSame_1 i).trans (dq_in h))
theorem qX6_isSame_2 (i b : Nat) (h : dqNth qaX6_isSame_2 i = some b) : DqBy cX6_isSame (32 + i) b := dqBy_of qeX6_isSame ((qsX6_isSame_2 i).trans (dq_in h))
theorem qX6_isSame_3 (i b : Nat) (h : dqNth qaX6_isSame_3 i = some b) : DqBy cX6_isSame (48 + i) b := dqBy_of qeX6_isSame ((qsX6_isSame_3 i).trans (dq_in h))
theorem qX6_isSame_4 (i b : Nat) (h : dqNth qaX6_isSame_4 i = some b) : DqBy cX6_isSame (64 + i) b := dqBy_of qeX6_isSame ((qsX6_isSame_4 i).trans (dq_in h))
theorem qX6_isSame_5 (i b : Nat) (h : dqNth qaX6_isSame_5 i = some b) : DqBy cX6_isSame (80 + i) b := dqBy_of qeX6_isSame ((qsX6_isSame_5 i).trans (dq_in h))
theorem dX6_isSame_0 : decode cX6_isSame 0 = .ok (.aload_n 0, 1) := @dq_o42 cX6_isSame 0 (qX6_isSame_0 0 42 rfl)
theorem dX6_isSame_1 : decode cX6_isSame 1 = .ok (.getfield 9, 3) := @dq_o180 cX6_isSame 1 0 9 (qX6_isSame_0 1 180 rfl) (qX6_isSame_0 2 0 rfl) (qX6_isSame_0 3 9 rfl)
theorem dX6_isSame_4 : decode cX6_isSame 4 = .ok (.aload_n 1, 1) := @dq_o43 cX6_isSame 4 (qX6_isSame_0 4 43 rfl)
theorem dX6_isSame_5 : decode cX6_isSame 5 = .ok (.getfield 9, 3) := @dq_o180 cX6_isSame 5 0 9 (qX6_isSame_0 5 180 rfl) (qX6_isSame_0 6 0 rfl) (qX6_isSame_0 7 9 rfl)
theorem dX6_isSame_8 : decode cX6_isSame 8 = .ok (.if_icmp .eq 5, 3) := @dq_o159 cX6_isSame 8 0 5 (qX6_isSame_0 8 159 rfl) (qX6_isSame_0 9 0 rfl) (qX6_isSame_0 10 5 rfl)
theorem dX6_isSame_11 : decode cX6_isSame 11 = .ok (.iconst 0, 1) := @dq_o3 cX6_isSame 11 (qX6_isSame_0 11 3 rfl)
theorem dX6_isSame_12 : decode cX6_isSame 12 = .ok (.ireturn, 1) := @dq_o172 cX6_isSame 12 (qX6_isSame_0 12 172 rfl)
theorem dX6_isSame_13 : decode cX6_isSame 13 = .ok (.iconst 0, 1) := @dq_o3 cX6_isSame 13 (qX6_isSame_0 13 3 rfl)
theorem dX6_isSame_14 : decode cX6_isSame 14 = .ok (.istore_n 2, 1) := @dq_o61 cX6_isSame 14 (qX6_isSame_0 14 61 rfl)
theorem dX6_isSame_15 : decode cX6_isSame 15 = .ok (.iload_n 2, 1) := @dq_o28 cX6_isSame 15 (qX6_isSame_0 15 28 rfl)
theorem dX6_isSame_16 : decode cX6_isSame 16 = .ok (.aload_n 0, 1) := @dq_o42 cX6_isSame 16 (qX6_isSame_1 0 42 rfl)
theorem dX6_isSame_17 : decode cX6_isSame 17 = .ok (.getfield 15, 3) := @dq_o180 cX6_isSame 17 0 15 (qX6_isSame_1 1 180 rfl) (qX6_isSame_1 2 0 rfl) (qX6_isSame_1 3 15 rfl)
theorem dX6_isSame_20 : decode cX6_isSame 20 = .ok (.arraylength, 1) := @dq_o190 cX6_isSame 20 (qX6_isSame_1 4 190 rfl)
theorem dX6_isSame_21 : decode cX6_isSame 21 = .ok (.if_icmp .ge 26, 3) := @dq_o162 cX6_isSame 21 0 26 (qX6_isSame_1 5 162 rfl) (qX6_isSame_1 6 0 rfl) (qX6_isSame_1 7 26 rfl)
theorem dX6_isSame_24 : decode cX6_isSame 24 = .ok (.aload_n 0, 1) := @dq_o42 cX6_isSame 24 (qX6_isSame_1 8 42 rfl)
theorem dX6_isSame_25 : decode cX6_isSame 25 = .ok (.getfield 15, 3) := @dq_o180 cX6_isSame 25 0 15 (qX6_isSame_1 9 180 rfl) (qX6_isSame_1 10 0 rfl) (qX6_isSame_1 11 15 rfl)
theorem dX6_isSame_28 : decode cX6_isSame 28 = .ok (.iload_n 2, 1) := @dq_o28 cX6_isSame 28 (qX6_isSame_1 12 28 rfl)
theorem dX6_isSame_29 : decode cX6_isSame 29 = .ok (.iaload, 1) := @dq_o46 cX6_isSame 29 (qX6_isSame_1 13 46 rfl)
theorem dX6_isSame_30 : decode cX6_isSame 30 = .ok (.aload_n 1, 1) := @dq_o43 cX6_isSame 30 (qX6_isSame_1 14 43 rfl)
theorem dX6_isSame_31 : decode cX6_isSame 31 = .ok (.getfield 15, 3) := @dq_o180 cX6_isSame 31 0 15 (qX6_isSame_1 15 180 rfl) (qX6_isSame_2 0 0 rfl) (qX6_isSame_2 1 15 rfl)
theorem dX6_isSame_34 : decode cX6_isSame 34 = .ok (.iload_n 2, 1) := @dq_o28 cX6_isSame 34 (qX6_isSame_2 2 28 rfl)
theorem dX6_isSame_35 : decode cX6_isSame 35 = .ok (.iaload, 1) := @dq_o46 cX6_isSame 35 (qX6_isSame_2 3 46 rfl)
theorem dX6_isSame_36 : decode cX6_isSame 36 = .ok (.if_icmp .eq 5, 3) := @dq_o159 cX6_isSame 36 0 5 (qX6_isSame_2 4 159 rfl) (qX6_isSame_2 5 0 rfl) (qX6_isSame_2 6 5 rfl)
theorem dX6_isSame_39 : decode cX6_isSame 39 = .ok (.iconst 0, 1) := @dq_o3 cX6_isSame 39 (qX6_isSame_2 7 3 rfl)
theorem dX6_isSame_40 : decode cX6_isSame 40 = .ok (.ireturn, 1) := @dq_o172 cX6_isSame 40 (qX6_isSame_2 8 172 rfl)
theorem dX6_isSame_41 : decode cX6_isSame 41 = .ok (.iinc 2 1, 3) := @dq_o132 cX6_isSame 41 2 1 (qX6_isSame_2 9 132 rfl) (qX6_isSame_2 10 2 rfl) (qX6_isSame_2 11 1 rfl)
theorem dX6_isSame_44 : decode cX6_isSame 44 = .ok (.goto (-29), 3) := @dq_o167 cX6_isSame 44 255 227 (qX6_isSame_2 12 167 rfl) (qX6_isSame_2 13 255 rfl) (qX6_isSame_2 14 227 rfl)
theorem dX6_isSame_47 : decode cX6_isSame 47 = .ok (.iconst 0, 1) := @dq_o3 cX6_isSame 47 (qX6_isSame_2 15 3 rfl)
theorem dX6_isSame_48 : decode cX6_isSame 48 = .ok (.istore_n 2, 1) := @dq_o61 cX6_isSame 48 (qX6_isSame_3 0 61 rfl)
theorem dX6_isSame_49 : decode cX6_isSame 49 = .ok (.iload_n 2, 1) := @dq_o28 cX6_isSame 49 (qX6_isSame_3 1 28 rfl)
theorem dX6_isSame_50 : decode cX6_isSame 50 = .ok (.aload_n 0, 1) := @dq_o42 cX6_isSame 50 (qX6_isSame_3 2 42 rfl)
theorem dX6_isSame_51 : decode cX6_isSame 51 = .ok (.getfield 19, 3) := @dq_o180 cX6_isSame 51 0 19 (qX6_isSame_3 3 180 rfl) (qX6_isSame_3 4 0 rfl) (qX6_isSame_3 5 19 rfl)
theorem dX6_isSame_54 : decode cX6_isSame 54 = .ok (.arraylength, 1) := @dq_o190 cX6_isSame 54 (qX6_isSame_3 6 190 rfl)
theorem dX6_isSame_55 : decode cX6_isSame 55 = .ok (.if_icmp .ge 26, 3) := @dq_o162 cX6_isSame 55 0 26 (qX6_isSame_3 7 162 rfl) (qX6_isSame_3 8 0 rfl) (qX6_isSame_3 9 26 rfl)
theorem dX6_isSame_58 : decode cX6_isSame 58 = .ok (.aload_n 0, 1) := @dq_o42 cX6_isSame 58 (qX6_isSame_3 10 42 rfl)
theorem dX6_isSame_59 : decode cX6_isSame 59 = .ok (.getfield 19, 3) := @dq_o180 cX6_isSame 59 0 19 (qX6_isSame_3 11 180 rfl) (qX6_isSame_3 12 0 rfl) (qX6_isSame_3 13 19 rfl)
theorem dX6_isSame_62 : decode cX6_isSame 62 = .ok (.iload_n 2, 1) := @dq_o28 cX6_isSame 62 (qX6_isSame_3 14 28 rfl)
theorem dX6_isSame_63 : decode cX6_isSame 63 = .ok (.iaload, 1) := @dq_o46 cX6_isSame 63 (qX6_isSame_3 15 46 rfl)
theorem dX6_isSame_64 : decode cX6_isSame 64 = .ok (.aload_n 1, 1) := @dq_o43 cX6_isSame 64 (qX6_isSame_4 0 43 rfl)
theorem dX6_isSame_65 : decode cX6_isSame 65 = .ok (.getfield 19, 3) := @dq_o180 cX6_isSame 65 0 19 (qX6_isSame_4 1 180 rfl) (qX6_isSame_4 2 0 rfl) (qX6_isSame_4 3 19 rfl)
theorem dX6_isSame_68 : decode cX6_isSame 68 = .ok (.iload_n 2, 1) := @dq_o28 cX6_isSame 68 (qX6_isSame_4 4 28 rfl)
theorem dX6_isSame_69 : decode cX6_isSame 69 = .ok (.iaload, 1) := @dq_o46 cX6_isSame 69 (qX6_isSame_4 5 46 rfl)
theorem dX6_isSame_70 : decode cX6_isSame 70 = .ok (.if_icmp .eq 5, 3) := @dq_o159 cX6_isSame 70 0 5 (qX6_isSame_4 6 159 rfl) (qX6_isSame_4 7 0 rfl) (qX6_isSame_4 8 5 rfl)
theorem dX6_isSame_73 : decode cX6_isSame 73 = .ok (.iconst 0, 1) := @dq_o3 cX6_isSame 73 (qX6_isSame_4 9 3 rfl)
theorem dX6_isSame_74 : decode cX6_isSame 74 = .ok (.ireturn, 1) := @dq_o172 cX6_isSame 74 (qX6_isSame_4 10 172 rfl)
theorem dX6_isSame_75 : decode cX6_isSame 75 = .ok (.iinc 2 1, 3) := @dq_o132 cX6_isSame 75 2 1 (qX6_isSame_4 11 132 rfl) (qX6_isSame_4 12 2 rfl) (qX6_isSame_4 13 1 rfl)
theorem dX6_isSame_78 : decode cX6_isSame 78 = .ok (.goto (-29), 3) := @dq_o167 cX6_isSame 78 255 227 (qX6_isSame_4 14 167 rfl) (qX6_isSame_4 15 255 rfl) (qX6_isSame_5 0 227 rfl)
theorem dX6_isSame_81 : decode cX6_isSame 81 = .ok (.iconst 1, 1) := @dq_o4 cX6_isSame 81 (qX6_isSame_5 1 4 rfl)
theorem dX6_isSame_82 : decode cX6_isSame 82 = .ok (.ireturn, 1) := @dq_o172 cX6_isSame 82 (qX6_isSame_5 2 172 rfl)
abbrev qaX6_isTail_0 : List Nat := [28, 155, 0, 25, 27, 28, 164, 0, 20, 29, 27, 164, 0, 15, 29, 42]
abbrev qaX6_isTail_1 : List Nat := [180, 0, 9, 162, 0, 7, 4, 167, 0, 4, 3, 172]
def qtX6_isTail_2 : List Nat := []
def qtX6_isTail_1 : List Nat := qaX6_isTail_1 ++ qtX6_isTail_2
def qtX6_isTail_0 : List Nat := qaX6_isTail_0 ++ qtX6_isTail_1
theorem qeX6_isTail : cX6_isTail.data.toList.map UInt8.toNat = qtX6_isTail_0 := by decide +kernel
theorem qsX6_isTail_0 : ∀ i, dqNth qtX6_isTail_0 (0 + i) = dqNth qtX6_isTail_0 i := fun i => by rw [Nat.zero_add]
theorem qsX6_isTail_1 : ∀ i, dqNth qtX6_isTail_0 (16 + i) = dqNth qtX6_isTail_1 i := dq_step qsX6_isTail_0 rfl rfl
theorem qX6_isTail_0 (i b : Nat) (h : dqNth qaX6_isTail_0 i = some b) : DqBy cX6_isTail (0 + i) b := dqBy_of qeX6_isTail ((qsX6_isTail_0 i).trans (dq_in h))
theorem qX6_isTail_1 (i b : Nat) (h : dqNth qaX6_isTail_1 i = some b) : DqBy cX6_isTail (16 + i) b := dqBy_of qeX6_isTail ((qsX6_isTail_1 i).trans (dq_in h))
theorem dX6_isTail_0 : decode cX6_isTail 0 = .ok (.iload_n 2, 1) := @dq_o28 cX6_isTail 0 (qX6_isTail_0 0 28 rfl)
theorem dX6_isTail_1 : decode cX6_isTail 1 = .ok (.ifCond .lt 25, 3) := @dq_o155 cX6_isTail 1 0 25 (qX6_isTail_0 1 155 rfl) (qX6_isTail_0 2 0 rfl) (qX6_isTail_0 3 25 rfl)
theorem dX6_isTail_4 : decode cX6_isTail 4 = .ok (.iload_n 1, 1) := @dq_o27 cX6_isTail 4 (qX6_isTail_0 4 27 rfl)
theorem dX6_isTail_5 : decode cX6_isTail 5 = .ok (.iload_n 2, 1) := @dq_o28 cX6_isTail 5 (qX6_isTail_0 5 28 rfl)
theorem dX6_isTail_6 : decode cX6_isTail 6 = .ok (.if_icmp .le 20, 3) := @dq_o164 cX6_isTail 6 0 20 (qX6_isTail_0 6 164 rfl) (qX6_isTail_0 7 0 rfl) (qX6_isTail_0 8 20 rfl)
theorem dX6_isTail_9 : decode cX6_isTail 9 = .ok (.iload_n 3, 1) := @dq_o29 cX6_isTail 9 (qX6_isTail_0 9 29 rfl)
theorem dX6_isTail_10 : decode cX6_isTail 10 = .ok (.iload_n 1, 1) := @dq_o27 cX6_isTail 10 (qX6_isTail_0 10 27 rfl)
theorem dX6_isTail_11 : decode cX6_isTail 11 = .ok (.if_icmp .le 15, 3) := @dq_o164 cX6_isTail 11 0 15 (qX6_isTail_0 11 164 rfl) (qX6_isTail_0 12 0 rfl) (qX6_isTail_0 13 15 rfl)
theorem dX6_isTail_14 : decode cX6_isTail 14 = .ok (.iload_n 3, 1) := @dq_o29 cX6_isTail 14 (qX6_isTail_0 14 29 rfl)
theorem dX6_isTail_15 : decode cX6_isTail 15 = .ok (.aload_n 0, 1) := @dq_o42 cX6_isTail 15 (qX6_isTail_0 15 42 rfl)
theorem dX6_isTail_16 : decode cX6_isTail 16 = .ok (.getfield 9, 3) := @dq_o180 cX6_isTail 16 0 9 (qX6_isTail_1 0 180 rfl) (qX6_isTail_1 1 0 rfl) (qX6_isTail_1 2 9 rfl)
theorem dX6_isTail_19 : decode cX6_isTail 19 = .ok (.if_icmp .ge 7, 3) := @dq_o162 cX6_isTail 19 0 7 (qX6_isTail_1 3 162 rfl) (qX6_isTail_1 4 0 rfl) (qX6_isTail_1 5 7 rfl)
theorem dX6_isTail_22 : decode cX6_isTail 22 = .ok (.iconst 1, 1) := @dq_o4 cX6_isTail 22 (qX6_isTail_1 6 4 rfl)
theorem dX6_isTail_23 : decode cX6_isTail 23 = .ok (.goto 4, 3) := @dq_o167 cX6_isTail 23 0 4 (qX6_isTail_1 7 167 rfl) (qX6_isTail_1 8 0 rfl) (qX6_isTail_1 9 4 rfl)
theorem dX6_isTail_26 : decode cX6_isTail 26 = .ok (.iconst 0, 1) := @dq_o3 cX6_isTail 26 (qX6_isTail_1 10 3 rfl)
theorem dX6_isTail_27 : decode cX6_isTail 27 = .ok (.ireturn, 1) := @dq_o172 cX6_isTail 27 (qX6_isTail_1 11 172 rfl)
abbrev qaX6_mayBe_0 : List Nat := [42, 27, 28, 29, 182, 0, 51, 153, 0, 14, 21, 4, 155, 0, 9, 21]
abbrev qaX6_mayBe_1 : List Nat := [4, 6, 164, 0, 5, 3, 172, 21, 4, 153, 0, 25, 42, 180, 0, 15]
abbrev qaX6_mayBe_2 : List Nat := [29, 46, 42, 180, 0, 15, 28, 46, 42, 180, 0, 15, 27, 46, 96, 161]
abbrev qaX6_mayBe_3 : List Nat := [0, 7, 4, 167, 0, 4, 3, 172]
def qtX6_mayBe_4 : List Nat := []
def qtX6_mayBe_3 : List Nat := qaX6_mayBe_3 ++ qtX6_mayBe_4
def qtX6_mayBe_2 : List Nat := qaX6_mayBe_2 ++ qtX6_mayBe_3
def qtX6_mayBe_1 : List Nat := qaX6_mayBe_1 ++ qtX6_mayBe_2
def qtX6_mayBe_0 : List Nat := qaX6_mayBe_0 ++ qtX6_mayBe_1
theorem qeX6_mayBe : cX6_mayBe.data.toList.map UInt8.toNat = qtX6_mayBe_0 := by decide +kernel
theorem qsX6_mayBe_0 : ∀ i, dqNth qtX6_mayBe_0 (0 + i) = dqNth qtX6_mayBe_0 i := fun i => by rw [Nat.zero_add]
theorem qsX6_mayBe_1 : ∀ i, dqNth qtX6_mayBe_0 (16 + i) = dqNth qtX6_mayBe_1 i := dq_step qsX6_mayBe_0 rfl rfl
theorem qsX6_mayBe_2 : ∀ i, dqNth qtX6_mayBe_0 (32 + i) = dqNth qtX6_mayBe_2 i := dq_step qsX6_mayBe_1 rfl rfl
theorem qsX6_mayBe_3 : ∀ i, dqNth qtX6_mayBe_0 (48 + i) = dqNth qtX6_mayBe_3 i := dq_step qsX6_mayBe_2 rfl rfl
theorem qX6_mayBe_0 (i b : Nat) (h : dqNth qaX6_mayBe_0 i = some b) : DqBy cX6_mayBe (0 + i) b := dqBy_of qeX6_mayBe ((qsX6_mayBe_0 i).trans (dq_in h))
theorem qX6_mayBe_1 (i b : Nat) (h : dqNth qaX6_mayBe_1 i = some b) : DqBy cX6_mayBe (16 + i) b := dqBy_of qeX6_mayBe ((qsX6_mayBe_1 i).trans (dq_in h))
theorem qX6_mayBe_2 (i b : Nat) (h : dqNth qaX6_mayBe_2 i = some b) : DqBy cX6_mayBe (32 + i) b := dqBy_of qeX6_mayBe ((qsX6_mayBe_2 i).trans (dq_in h))
theorem qX6_mayBe_3 (i b : Nat) (h : dqNth qaX6_mayBe_3 i = some b) : DqBy cX6_mayBe (48 + i) b := dqBy_of qeX6_mayBe ((qsX6_mayBe_3 i).trans (dq_in h))
theorem dX6_mayBe_0 : decode cX6_mayBe 0 = .ok (.aload_n 0, 1) := @dq_o42 cX6_mayBe 0 (qX6_mayBe_0 0 42 rfl)
theorem dX6_mayBe_1 : decode cX6_mayBe 1 = .ok (.iload_n 1, 1) := @dq_o27 cX6_mayBe 1 (qX6_mayBe_0 1 27 rfl)
theorem dX6_mayBe_2 : decode cX6_mayBe 2 = .ok (.iload_n 2, 1) := @dq_o28 cX6_mayBe 2 (qX6_mayBe_0 2 28 rfl)
theorem dX6_mayBe_3 : decode cX6_mayBe 3 = .ok (.iload_n 3, 1) := @dq_o29 cX6_mayBe 3 (qX6_mayBe_0 3 29 rfl)
theorem dX6_mayBe_4 : decode cX6_mayBe 4 = .ok (.invokevirtual 51, 3) := @dq_o182 cX6_mayBe 4 0 51 (qX6_mayBe_0 4 182 rfl) (qX6_mayBe_0 5 0 rfl) (qX6_mayBe_0 6 51 rfl)
theorem dX6_mayBe_7 : decode cX6_mayBe 7 = .ok (.ifCond .eq 14, 3) := @dq_o153 cX6_mayBe 7 0 14 (qX6_mayBe_0 7 153 rfl) (qX6_mayBe_0 8 0 rfl) (qX6_mayBe_0 9 14 rfl)
theorem dX6_mayBe_10 : decode cX6_mayBe 10 = .ok (.iload 4, 2) := @dq_o21 cX6_mayBe 10 4 (qX6_mayBe_0 10 21 rfl) (qX6_mayBe_0 11 4 rfl)
theorem dX6_mayBe_12 : decode cX6_mayBe 12 = .ok (.ifCond .lt 9, 3) := @dq_o155 cX6_mayBe 12 0 9 (qX6_mayBe_0 12 155 rfl) (qX6_mayBe_0 13 0 rfl) (qX6_mayBe_0 14 9 rfl)
theorem dX6_mayBe_15 : decode cX6_mayBe 15 = .ok (.iload 4, 2) := @dq_o21 cX6_mayBe 15 4 (qX6_mayBe_0 15 21 rfl) (qX6_mayBe_1 0 4 rfl)
theorem dX6_mayBe_17 : decode cX6_mayBe 17 = .ok (.iconst 3, 1) := @dq_o6 cX6_mayBe 17 (qX6_mayBe_1 1 6 rfl)
theorem dX6_mayBe_18 : decode cX6_mayBe 18 = .ok (.if_icmp .le 5, 3) := @dq_o164 cX6_mayBe 18 0 5 (qX6_mayBe_1 2 164 rfl) (qX6_mayBe_1 3 0 rfl) (qX6_mayBe_1 4 5 rfl)
theorem dX6_mayBe_21 : decode cX6_mayBe 21 = .ok (.iconst 0, 1) := @dq_o3 cX6_mayBe 21 (qX6_mayBe_1 5 3 rfl)
theorem dX6_mayBe_22 : decode cX6_mayBe 22 = .ok (.ireturn, 1) := @dq_o172 cX6_mayBe 22 (qX6_mayBe_1 6 172 rfl)
theorem dX6_mayBe_23 : decode cX6_mayBe 23 = .ok (.iload 4, 2) := @dq_o21 cX6_mayBe 23 4 (qX6_mayBe_1 7 21 rfl) (qX6_mayBe_1 8 4 rfl)
theorem dX6_mayBe_25 : decode cX6_mayBe 25 = .ok (.ifCond .eq 25, 3) := @dq_o153 cX6_mayBe 25 0 25 (qX6_mayBe_1 9 153 rfl) (qX6_mayBe_1 10 0 rfl) (qX6_mayBe_1 11 25 rfl)
theorem dX6_mayBe_28 : decode cX6_mayBe 28 = .ok (.aload_n 0, 1) := @dq_o42 cX6_mayBe 28 (qX6_mayBe_1 12 42 rfl)
theorem dX6_mayBe_29 : decode cX6_mayBe 29 = .ok (.getfield 15, 3) := @dq_o180 cX6_mayBe 29 0 15 (qX6_mayBe_1 13 180 rfl) (qX6_mayBe_1 14 0 rfl) (qX6_mayBe_1 15 15 rfl)
theorem dX6_mayBe_32 : decode cX6_mayBe 32 = .ok (.iload_n 3, 1) := @dq_o29 cX6_mayBe 32 (qX6_mayBe_2 0 29 rfl)
theorem dX6_mayBe_33 : decode cX6_mayBe 33 = .ok (.iaload, 1) := @dq_o46 cX6_mayBe 33 (qX6_mayBe_2 1 46 rfl)
theorem dX6_mayBe_34 : decode cX6_mayBe 34 = .ok (.aload_n 0, 1) := @dq_o42 cX6_mayBe 34 (qX6_mayBe_2 2 42 rfl)
theorem dX6_mayBe_35 : decode cX6_mayBe 35 = .ok (.getfield 15, 3) := @dq_o180 cX6_mayBe 35 0 15 (qX6_mayBe_2 3 180 rfl) (qX6_mayBe_2 4 0 rfl) (qX6_mayBe_2 5 15 rfl)
theorem dX6_mayBe_38 : decode cX6_mayBe 38 = .ok (.iload_n 2, 1) := @dq_o28 cX6_mayBe 38 (qX6_mayBe_2 6 28 rfl)
theorem dX6_mayBe_39 : decode cX6_mayBe 39 = .ok (.iaload, 1) := @dq_o46 cX6_mayBe 39 (qX6_mayBe_2 7 46 rfl)
theorem dX6_mayBe_40 : decode cX6_mayBe 40 = .ok (.aload_n 0, 1) := @dq_o42 cX6_mayBe 40 (qX6_mayBe_2 8 42 rfl)
theorem dX6_mayBe_41 : decode cX6_mayBe 41 = .ok (.getfield 15, 3) := @dq_o180 cX6_mayBe 41 0 15 (qX6_mayBe_2 9 180 rfl) (qX6_mayBe_2 10 0 rfl) (qX6_mayBe_2 11 15 rfl)
theorem dX6_mayBe_44 : decode cX6_mayBe 44 = .ok (.iload_n 1, 1) := @dq_o27 cX6_mayBe 44 (qX6_mayBe_2 12 27 rfl)
theorem dX6_mayBe_45 : decode cX6_mayBe 45 = .ok (.iaload, 1) := @dq_o46 cX6_mayBe 45 (qX6_mayBe_2 13 46 rfl)
theorem dX6_mayBe_46 : decode cX6_mayBe 46 = .ok (.iadd, 1) := @dq_o96 cX6_mayBe 46 (qX6_mayBe_2 14 96 rfl)
theorem dX6_mayBe_47 : decode cX6_mayBe 47 = .ok (.if_icmp .lt 7, 3) := @dq_o161 cX6_mayBe 47 0 7 (qX6_mayBe_2 15 161 rfl) (qX6_mayBe_3 0 0 rfl) (qX6_mayBe_3 1 7 rfl)
theorem dX6_mayBe_50 : decode cX6_mayBe 50 = .ok (.iconst 1, 1) := @dq_o4 cX6_mayBe 50 (qX6_mayBe_3 2 4 rfl)
theorem dX6_mayBe_51 : decode cX6_mayBe 51 = .ok (.goto 4, 3) := @dq_o167 cX6_mayBe 51 0 4 (qX6_mayBe_3 3 167 rfl) (qX6_mayBe_3 4 0 rfl) (qX6_mayBe_3 5 4 rfl)
theorem dX6_mayBe_54 : decode cX6_mayBe 54 = .ok (.iconst 0, 1) := @dq_o3 cX6_mayBe 54 (qX6_mayBe_3 6 3 rfl)
theorem dX6_mayBe_55 : decode cX6_mayBe 55 = .ok (.ireturn, 1) := @dq_o172 cX6_mayBe 55 (qX6_mayBe_3 7 172 rfl)
abbrev qaX6_read_0 : List Nat := [42, 27, 28, 29, 182, 0, 51, 153, 0, 22, 42, 180, 0, 19, 27, 16]
abbrev qaX6_read_1 : List Nat := [6, 104, 28, 96, 16, 6, 104, 29, 96, 46, 167, 0, 4, 3, 172]
def qtX6_read_2 : List Nat := []
def qtX6_read_1 : List Nat := qaX6_read_1 ++ qtX6_read_2
def qtX6_read_0 : List Nat := qaX6_read_0 ++ qtX6_read_1
theorem qeX6_read : cX6_read.data.toList.map UInt8.toNat = qtX6_read_0 := by decide +kernel
theorem qsX6_read_0 : ∀ i, dqNth qtX6_read_0 (0 + i) = dqNth qtX6_read_0 i := fun i => by rw [Nat.zero_add]
theorem qsX6_read_1 : ∀ i, dqNth qtX6_read_0 (16 + i) = dqNth qtX6_read_1 i := dq_step qsX6_read_0 rfl rfl
theorem qX6_read_0 (i b : Nat) (h : dqNth qaX6_read_0 i = some b) : DqBy cX6_read (0 + i) b := dqBy_of qeX6_read ((qsX6_read_0 i).trans (dq_in h))
theorem qX6_read_1 (i b : Nat) (h : dqNth qaX6_read_1 i = some b) : DqBy cX6_read (16 + i) b := dqBy_of qeX6_read ((qsX6_read_1 i).trans (dq_in h))
theorem dX6_read_0 : decode cX6_read 0 = .ok (.aload_n 0, 1) := @dq_o42 cX6_read 0 (qX6_read_0 0 42 rfl)
theorem dX6_read_1 : decode cX6_read 1 = .ok (.iload_n 1, 1) := @dq_o27 cX6_read 1 (qX6_read_0 1 27 rfl)
theorem dX6_read_2 : decode cX6_read 2 = .ok (.iload_n 2, 1) := @dq_o28 cX6_read 2 (qX6_read_0 2 28 rfl)
theorem dX6_read_3 : decode cX6_read 3 = .ok (.iload_n 3, 1) := @dq_o29 cX6_read 3 (qX6_read_0 3 29 rfl)
theorem dX6_read_4 : decode cX6_read 4 = .ok (.invokevirtual 51, 3) := @dq_o182 cX6_read 4 0 51 (qX6_read_0 4 182 rfl) (qX6_read_0 5 0 rfl) (qX6_read_0 6 51 rfl)
theorem dX6_read_7 : decode cX6_read 7 = .ok (.ifCond .eq 22, 3) := @dq_o153 cX6_read 7 0 22 (qX6_read_0 7 153 rfl) (qX6_read_0 8 0 rfl) (qX6_read_0 9 22 rfl)
theorem dX6_read_10 : decode cX6_read 10 = .ok (.aload_n 0, 1) := @dq_o42 cX6_read 10 (qX6_read_0 10 42 rfl)
theorem dX6_read_11 : decode cX6_read 11 = .ok (.getfield 19, 3) := @dq_o180 cX6_read 11 0 19 (qX6_read_0 11 180 rfl) (qX6_read_0 12 0 rfl) (qX6_read_0 13 19 rfl)
theorem dX6_read_14 : decode cX6_read 14 = .ok (.iload_n 1, 1) := @dq_o27 cX6_read 14 (qX6_read_0 14 27 rfl)
theorem dX6_read_15 : decode cX6_read 15 = .ok (.bipush 6, 2) := @dq_o16 cX6_read 15 6 (qX6_read_0 15 16 rfl) (qX6_read_1 0 6 rfl)
theorem dX6_read_17 : decode cX6_read 17 = .ok (.imul, 1) := @dq_o104 cX6_read 17 (qX6_read_1 1 104 rfl)
theorem dX6_read_18 : decode cX6_read 18 = .ok (.iload_n 2, 1) := @dq_o28 cX6_read 18 (qX6_read_1 2 28 rfl)
theorem dX6_read_19 : decode cX6_read 19 = .ok (.iadd, 1) := @dq_o96 cX6_read 19 (qX6_read_1 3 96 rfl)
theorem dX6_read_20 : decode cX6_read 20 = .ok (.bipush 6, 2) := @dq_o16 cX6_read 20 6 (qX6_read_1 4 16 rfl) (qX6_read_1 5 6 rfl)
theorem dX6_read_22 : decode cX6_read 22 = .ok (.imul, 1) := @dq_o104 cX6_read 22 (qX6_read_1 6 104 rfl)
theorem dX6_read_23 : decode cX6_read 23 = .ok (.iload_n 3, 1) := @dq_o29 cX6_read 23 (qX6_read_1 7 29 rfl)
theorem dX6_read_24 : decode cX6_read 24 = .ok (.iadd, 1) := @dq_o96 cX6_read 24 (qX6_read_1 8 96 rfl)
theorem dX6_read_25 : decode cX6_read 25 = .ok (.iaload, 1) := @dq_o46 cX6_read 25 (qX6_read_1 9 46 rfl)
theorem dX6_read_26 : decode cX6_read 26 = .ok (.goto 4, 3) := @dq_o167 cX6_read 26 0 4 (qX6_read_1 10 167 rfl) (qX6_read_1 11 0 rfl) (qX6_read_1 12 4 rfl)
theorem dX6_read_29 : decode cX6_read 29 = .ok (.iconst 0, 1) := @dq_o3 cX6_read 29 (qX6_read_1 13 3 rfl)
theorem dX6_read_30 : decode cX6_read 30 = .ok (.ireturn, 1) := @dq_o172 cX6_read 30 (qX6_read_1 14 172 rfl)
abbrev qaX6_write_0 : List Nat := [42, 27, 28, 29, 182, 0, 51, 153, 0, 21, 42, 180, 0, 19, 27, 16]
abbrev qaX6_write_1 : List Nat := [6, 104, 28, 96, 16, 6, 104, 29, 96, 21, 4, 79, 177]
def qtX6_write_2 : List Nat := []
def qtX6_write_1 : List Nat := qaX6_write_1 ++ qtX6_write_2
def qtX6_write_0 : List Nat := qaX6_write_0 ++ qtX6_write_1
theorem qeX6_write : cX6_write.data.toList.map UInt8.toNat = qtX6_write_0 := by decide +kernel
theorem qsX6_write_0 : ∀ i, dqNth qtX6_write_0 (0 + i) = dqNth qtX6_write_0 i := fun i => by rw [Nat.zero_add]
theorem qsX6_write_1 : ∀ i, dqNth qtX6_write_0 (16 + i) = dqNth qtX6_write_1 i := dq_step qsX6_write_0 rfl rfl
theorem qX6_write_0 (i b : Nat) (h : dqNth qaX6_write_0 i = some b) : DqBy cX6_write (0 + i) b := dqBy_of qeX6_write ((qsX6_write_0 i).trans (dq_in h))
theorem qX6_write_1 (i b : Nat) (h : dqNth qaX6_write_1 i = some b) : DqBy cX6_write (16 + i) b := dqBy_of qeX6_write ((qsX6_write_1 i).trans (dq_in h))
theorem dX6_write_0 : decode cX6_write 0 = .ok (.aload_n 0, 1) := @dq_o42 cX6_write 0 (qX6_write_0 0 42 rfl)
theorem dX6_write_1 : decode cX6_write 1 = .ok (.iload_n 1, 1) := @dq_o27 cX6_write 1 (qX6_write_0 1 27 rfl)
theorem dX6_write_2 : decode cX6_write 2 = .ok (.iload_n 2, 1) := @dq_o28 cX6_write 2 (qX6_write_0 2 28 rfl)
theorem dX6_write_3 : decode cX6_write 3 = .ok (.iload_n 3, 1) := @dq_o29 cX6_write 3 (qX6_write_0 3 29 rfl)
theorem dX6_write_4 : decode cX6_write 4 = .ok (.invokevirtual 51, 3) := @dq_o182 cX6_write 4 0 51 (qX6_write_0 4 182 rfl) (qX6_write_0 5 0 rfl) (qX6_write_0 6 51 rfl)
theorem dX6_write_7 : decode cX6_write 7 = .ok (.ifCond .eq 21, 3) := @dq_o153 cX6_write 7 0 21 (qX6_write_0 7 153 rfl) (qX6_write_0 8 0 rfl) (qX6_write_0 9 21 rfl)
theorem dX6_write_10 : decode cX6_write 10 = .ok (.aload_n 0, 1) := @dq_o42 cX6_write 10 (qX6_write_0 10 42 rfl)
theorem dX6_write_11 : decode cX6_write 11 = .ok (.getfield 19, 3) := @dq_o180 cX6_write 11 0 19 (qX6_write_0 11 180 rfl) (qX6_write_0 12 0 rfl) (qX6_write_0 13 19 rfl)
theorem dX6_write_14 : decode cX6_write 14 = .ok (.iload_n 1, 1) := @dq_o27 cX6_write 14 (qX6_write_0 14 27 rfl)
theorem dX6_write_15 : decode cX6_write 15 = .ok (.bipush 6, 2) := @dq_o16 cX6_write 15 6 (qX6_write_0 15 16 rfl) (qX6_write_1 0 6 rfl)
theorem dX6_write_17 : decode cX6_write 17 = .ok (.imul, 1) := @dq_o104 cX6_write 17 (qX6_write_1 1 104 rfl)
theorem dX6_write_18 : decode cX6_write 18 = .ok (.iload_n 2, 1) := @dq_o28 cX6_write 18 (qX6_write_1 2 28 rfl)
theorem dX6_write_19 : decode cX6_write 19 = .ok (.iadd, 1) := @dq_o96 cX6_write 19 (qX6_write_1 3 96 rfl)
theorem dX6_write_20 : decode cX6_write 20 = .ok (.bipush 6, 2) := @dq_o16 cX6_write 20 6 (qX6_write_1 4 16 rfl) (qX6_write_1 5 6 rfl)
theorem dX6_write_22 : decode cX6_write 22 = .ok (.imul, 1) := @dq_o104 cX6_write 22 (qX6_write_1 6 104 rfl)
theorem dX6_write_23 : decode cX6_write 23 = .ok (.iload_n 3, 1) := @dq_o29 cX6_write 23 (qX6_write_1 7 29 rfl)
theorem dX6_write_24 : decode cX6_write 24 = .ok (.iadd, 1) := @dq_o96 cX6_write 24 (qX6_write_1 8 96 rfl)
theorem dX6_write_25 : decode cX6_write 25 = .ok (.iload 4, 2) := @dq_o21 cX6_write 25 4 (qX6_write_1 9 21 rfl) (qX6_write_1 10 4 rfl)
theorem dX6_write_27 : decode cX6_write 27 = .ok (.iastore, 1) := @dq_o79 cX6_write 27 (qX6_write_1 11 79 rfl)
theorem dX6_write_28 : decode cX6_write 28 = .ok (.return_, 1) := @dq_o177 cX6_write 28 (qX6_write_1 12 177 rfl)
abbrev qaX6_copyTails_0 : List Nat := [3, 54, 4, 21, 4, 16, 6, 162, 0, 22, 45, 21, 4, 42, 27, 28]
abbrev qaX6_copyTails_1 : List Nat := [21, 4, 182, 0, 55, 133, 80, 132, 4, 1, 167, 255, 233, 177]
def qtX6_copyTails_2 : List Nat := []
def qtX6_copyTails_1 : List Nat := qaX6_copyTails_1 ++ qtX6_copyTails_2
def qtX6_copyTails_0 : List Nat := qaX6_copyTails_0 ++ qtX6_copyTails_1
theorem qeX6_copyTails : cX6_copyTails.data.toList.map UInt8.toNat = qtX6_copyTails_0 := by decide +kernel
theorem qsX6_copyTails_0 : ∀ i, dqNth qtX6_copyTails_0 (0 + i) = dqNth qtX6_copyTails_0 i := fun i => by rw [Nat.zero_add]
theorem qsX6_copyTails_1 : ∀ i, dqNth qtX6_copyTails_0 (16 + i) = dqNth qtX6_copyTails_1 i := dq_step qsX6_copyTails_0 rfl rfl
theorem qX6_copyTails_0 (i b : Nat) (h : dqNth qaX6_copyTails_0 i = some b) : DqBy cX6_copyTails (0 + i) b := dqBy_of qeX6_copyTails ((qsX6_copyTails_0 i).trans (dq_in h))
theorem qX6_copyTails_1 (i b : Nat) (h : dqNth qaX6_copyTails_1 i = some b) : DqBy cX6_copyTails (16 + i) b := dqBy_of qeX6_copyTails ((qsX6_copyTails_1 i).trans (dq_in h))
theorem dX6_copyTails_0 : decode cX6_copyTails 0 = .ok (.iconst 0, 1) := @dq_o3 cX6_copyTails 0 (qX6_copyTails_0 0 3 rfl)
theorem dX6_copyTails_1 : decode cX6_copyTails 1 = .ok (.istore 4, 2) := @dq_o54 cX6_copyTails 1 4 (qX6_copyTails_0 1 54 rfl) (qX6_copyTails_0 2 4 rfl)
theorem dX6_copyTails_3 : decode cX6_copyTails 3 = .ok (.iload 4, 2) := @dq_o21 cX6_copyTails 3 4 (qX6_copyTails_0 3 21 rfl) (qX6_copyTails_0 4 4 rfl)
theorem dX6_copyTails_5 : decode cX6_copyTails 5 = .ok (.bipush 6, 2) := @dq_o16 cX6_copyTails 5 6 (qX6_copyTails_0 5 16 rfl) (qX6_copyTails_0 6 6 rfl)
theorem dX6_copyTails_7 : decode cX6_copyTails 7 = .ok (.if_icmp .ge 22, 3) := @dq_o162 cX6_copyTails 7 0 22 (qX6_copyTails_0 7 162 rfl) (qX6_copyTails_0 8 0 rfl) (qX6_copyTails_0 9 22 rfl)
theorem dX6_copyTails_10 : decode cX6_copyTails 10 = .ok (.aload_n 3, 1) := @dq_o45 cX6_copyTails 10 (qX6_copyTails_0 10 45 rfl)
theorem dX6_copyTails_11 : decode cX6_copyTails 11 = .ok (.iload 4, 2) := @dq_o21 cX6_copyTails 11 4 (qX6_copyTails_0 11 21 rfl) (qX6_copyTails_0 12 4 rfl)
theorem dX6_copyTails_13 : decode cX6_copyTails 13 = .ok (.aload_n 0, 1) := @dq_o42 cX6_copyTails 13 (qX6_copyTails_0 13 42 rfl)
theorem dX6_copyTails_14 : decode cX6_copyTails 14 = .ok (.iload_n 1, 1) := @dq_o27 cX6_copyTails 14 (qX6_copyTails_0 14 27 rfl)
theorem dX6_copyTails_15 : decode cX6_copyTails 15 = .ok (.iload_n 2, 1) := @dq_o28 cX6_copyTails 15 (qX6_copyTails_0 15 28 rfl)
theorem dX6_copyTails_16 : decode cX6_copyTails 16 = .ok (.iload 4, 2) := @dq_o21 cX6_copyTails 16 4 (qX6_copyTails_1 0 21 rfl) (qX6_copyTails_1 1 4 rfl)
theorem dX6_copyTails_18 : decode cX6_copyTails 18 = .ok (.invokevirtual 55, 3) := @dq_o182 cX6_copyTails 18 0 55 (qX6_copyTails_1 2 182 rfl) (qX6_copyTails_1 3 0 rfl) (qX6_copyTails_1 4 55 rfl)
theorem dX6_copyTails_21 : decode cX6_copyTails 21 = .ok (.i2l, 1) := @dq_o133 cX6_copyTails 21 (qX6_copyTails_1 5 133 rfl)
theorem dX6_copyTails_22 : decode cX6_copyTails 22 = .ok (.lastore, 1) := @dq_o80 cX6_copyTails 22 (qX6_copyTails_1 6 80 rfl)
theorem dX6_copyTails_23 : decode cX6_copyTails 23 = .ok (.iinc 4 1, 3) := @dq_o132 cX6_copyTails 23 4 1 (qX6_copyTails_1 7 132 rfl) (qX6_copyTails_1 8 4 rfl) (qX6_copyTails_1 9 1 rfl)
theorem dX6_copyTails_26 : decode cX6_copyTails 26 = .ok (.goto (-23), 3) := @dq_o167 cX6_copyTails 26 255 233 (qX6_copyTails_1 10 167 rfl) (qX6_copyTails_1 11 255 rfl) (qX6_copyTails_1 12 233 rfl)
theorem dX6_copyTails_29 : decode cX6_copyTails 29 = .ok (.return_, 1) := @dq_o177 cX6_copyTails 29 (qX6_copyTails_1 13 177 rfl)
abbrev qaX6_top_0 : List Nat := [42, 180, 0, 9, 158, 0, 17, 42, 180, 0, 15, 42, 180, 0, 9, 4]
abbrev qaX6_top_1 : List Nat := [100, 46, 167, 0, 4, 3, 172]
def qtX6_top_2 : List Nat := []
def qtX6_top_1 : List Nat := qaX6_top_1 ++ qtX6_top_2
def qtX6_top_0 : List Nat := qaX6_top_0 ++ qtX6_top_1
theorem qeX6_top : cX6_top.data.toList.map UInt8.toNat = qtX6_top_0 := by decide +kernel
theorem qsX6_top_0 : ∀ i, dqNth qtX6_top_0 (0 + i) = dqNth qtX6_top_0 i := fun i => by rw [Nat.zero_add]
theorem qsX6_top_1 : ∀ i, dqNth qtX6_top_0 (16 + i) = dqNth qtX6_top_1 i := dq_step qsX6_top_0 rfl rfl
theorem qX6_top_0 (i b : Nat) (h : dqNth qaX6_top_0 i = some b) : DqBy cX6_top (0 + i) b := dqBy_of qeX6_top ((qsX6_top_0 i).trans (dq_in h))
theorem qX6_top_1 (i b : Nat) (h : dqNth qaX6_top_1 i = some b) : DqBy cX6_top (16 + i) b := dqBy_of qeX6_top ((qsX6_top_1 i).trans (dq_in h))
theorem dX6_top_0 : decode cX6_top 0 = .ok (.aload_n 0, 1) := @dq_o42 cX6_top 0 (qX6_top_0 0 42 rfl)
theorem dX6_top_1 : decode cX6_top 1 = .ok (.getfield 9, 3) := @dq_o180 cX6_top 1 0 9 (qX6_top_0 1 180 rfl) (qX6_top_0 2 0 rfl) (qX6_top_0 3 9 rfl)
theorem dX6_top_4 : decode cX6_top 4 = .ok (.ifCond .le 17, 3) := @dq_o158 cX6_top 4 0 17 (qX6_top_0 4 158 rfl) (qX6_top_0 5 0 rfl) (qX6_top_0 6 17 rfl)
theorem dX6_top_7 : decode cX6_top 7 = .ok (.aload_n 0, 1) := @dq_o42 cX6_top 7 (qX6_top_0 7 42 rfl)
theorem dX6_top_8 : decode cX6_top 8 = .ok (.getfield 15, 3) := @dq_o180 cX6_top 8 0 15 (qX6_top_0 8 180 rfl) (qX6_top_0 9 0 rfl) (qX6_top_0 10 15 rfl)
theorem dX6_top_11 : decode cX6_top 11 = .ok (.aload_n 0, 1) := @dq_o42 cX6_top 11 (qX6_top_0 11 42 rfl)
theorem dX6_top_12 : decode cX6_top 12 = .ok (.getfield 9, 3) := @dq_o180 cX6_top 12 0 9 (qX6_top_0 12 180 rfl) (qX6_top_0 13 0 rfl) (qX6_top_0 14 9 rfl)
theorem dX6_top_15 : decode cX6_top 15 = .ok (.iconst 1, 1) := @dq_o4 cX6_top 15 (qX6_top_0 15 4 rfl)
theorem dX6_top_16 : decode cX6_top 16 = .ok (.isub, 1) := @dq_o100 cX6_top 16 (qX6_top_1 0 100 rfl)
theorem dX6_top_17 : decode cX6_top 17 = .ok (.iaload, 1) := @dq_o46 cX6_top 17 (qX6_top_1 1 46 rfl)
theorem dX6_top_18 : decode cX6_top 18 = .ok (.goto 4, 3) := @dq_o167 cX6_top 18 0 4 (qX6_top_1 2 167 rfl) (qX6_top_1 3 0 rfl) (qX6_top_1 4 4 rfl)
theorem dX6_top_21 : decode cX6_top 21 = .ok (.iconst 0, 1) := @dq_o3 cX6_top 21 (qX6_top_1 5 3 rfl)
theorem dX6_top_22 : decode cX6_top 22 = .ok (.ireturn, 1) := @dq_o172 cX6_top 22 (qX6_top_1 6 172 rfl)
abbrev qaX6_tailsAboveZero_0 : List Nat := [3, 60, 3, 61, 28, 42, 180, 0, 19, 190, 162, 0, 26, 27, 42, 180]
abbrev qaX6_tailsAboveZero_1 : List Nat := [0, 19, 28, 46, 158, 0, 7, 4, 167, 0, 4, 3, 96, 60, 132, 2]
abbrev qaX6_tailsAboveZero_2 : List Nat := [1, 167, 255, 227, 27, 172]
def qtX6_tailsAboveZero_3 : List Nat := []
def qtX6_tailsAboveZero_2 : List Nat := qaX6_tailsAboveZero_2 ++ qtX6_tailsAboveZero_3
def qtX6_tailsAboveZero_1 : List Nat := qaX6_tailsAboveZero_1 ++ qtX6_tailsAboveZero_2
def qtX6_tailsAboveZero_0 : List Nat := qaX6_tailsAboveZero_0 ++ qtX6_tailsAboveZero_1
theorem qeX6_tailsAboveZero : cX6_tailsAboveZero.data.toList.map UInt8.toNat = qtX6_tailsAboveZero_0 := by decide +kernel
theorem qsX6_tailsAboveZero_0 : ∀ i, dqNth qtX6_tailsAboveZero_0 (0 + i) = dqNth qtX6_tailsAboveZero_0 i := fun i => by rw [Nat.zero_add]
theorem qsX6_tailsAboveZero_1 : ∀ i, dqNth qtX6_tailsAboveZero_0 (16 + i) = dqNth qtX6_tailsAboveZero_1 i := dq_step qsX6_tailsAboveZero_0 rfl rfl
theorem qsX6_tailsAboveZero_2 : ∀ i, dqNth qtX6_tailsAboveZero_0 (32 + i) = dqNth qtX6_tailsAboveZero_2 i := dq_step qsX6_tailsAboveZero_1 rfl rfl
theorem qX6_tailsAboveZero_0 (i b : Nat) (h : dqNth qaX6_tailsAboveZero_0 i = some b) : DqBy cX6_tailsAboveZero (0 + i) b := dqBy_of qeX6_tailsAboveZero ((qsX6_tailsAboveZero_0 i).trans (dq_in h))
theorem qX6_tailsAboveZero_1 (i b : Nat) (h : dqNth qaX6_tailsAboveZero_1 i = some b) : DqBy cX6_tailsAboveZero (16 + i) b := dqBy_of qeX6_tailsAboveZero ((qsX6_tailsAboveZero_1 i).trans (dq_in h))
theorem qX6_tailsAboveZero_2 (i b : Nat) (h : dqNth qaX6_tailsAboveZero_2 i = some b) : DqBy cX6_tailsAboveZero (32 + i) b := dqBy_of qeX6_tailsAboveZero ((qsX6_tailsAboveZero_2 i).trans (dq_in h))
theorem dX6_tailsAboveZero_0 : decode cX6_tailsAboveZero 0 = .ok (.iconst 0, 1) := @dq_o3 cX6_tailsAboveZero 0 (qX6_tailsAboveZero_0 0 3 rfl)
theorem dX6_tailsAboveZero_1 : decode cX6_tailsAboveZero 1 = .ok (.istore_n 1, 1) := @dq_o60 cX6_tailsAboveZero 1 (qX6_tailsAboveZero_0 1 60 rfl)
theorem dX6_tailsAboveZero_2 : decode cX6_tailsAboveZero 2 = .ok (.iconst 0, 1) := @dq_o3 cX6_tailsAboveZero 2 (qX6_tailsAboveZero_0 2 3 rfl)
theorem dX6_tailsAboveZero_3 : decode cX6_tailsAboveZero 3 = .ok (.istore_n 2, 1) := @dq_o61 cX6_tailsAboveZero 3 (qX6_tailsAboveZero_0 3 61 rfl)
theorem dX6_tailsAboveZero_4 : decode cX6_tailsAboveZero 4 = .ok (.iload_n 2, 1) := @dq_o28 cX6_tailsAboveZero 4 (qX6_tailsAboveZero_0 4 28 rfl)
theorem dX6_tailsAboveZero_5 : decode cX6_tailsAboveZero 5 = .ok (.aload_n 0, 1) := @dq_o42 cX6_tailsAboveZero 5 (qX6_tailsAboveZero_0 5 42 rfl)
theorem dX6_tailsAboveZero_6 : decode cX6_tailsAboveZero 6 = .ok (.getfield 19, 3) := @dq_o180 cX6_tailsAboveZero 6 0 19 (qX6_tailsAboveZero_0 6 180 rfl) (qX6_tailsAboveZero_0 7 0 rfl) (qX6_tailsAboveZero_0 8 19 rfl)
theorem dX6_tailsAboveZero_9 : decode cX6_tailsAboveZero 9 = .ok (.arraylength, 1) := @dq_o190 cX6_tailsAboveZero 9 (qX6_tailsAboveZero_0 9 190 rfl)
theorem dX6_tailsAboveZero_10 : decode cX6_tailsAboveZero 10 = .ok (.if_icmp .ge 26, 3) := @dq_o162 cX6_tailsAboveZero 10 0 26 (qX6_tailsAboveZero_0 10 162 rfl) (qX6_tailsAboveZero_0 11 0 rfl) (qX6_tailsAboveZero_0 12 26 rfl)
theorem dX6_tailsAboveZero_13 : decode cX6_tailsAboveZero 13 = .ok (.iload_n 1, 1) := @dq_o27 cX6_tailsAboveZero 13 (qX6_tailsAboveZero_0 13 27 rfl)
theorem dX6_tailsAboveZero_14 : decode cX6_tailsAboveZero 14 = .ok (.aload_n 0, 1) := @dq_o42 cX6_tailsAboveZero 14 (qX6_tailsAboveZero_0 14 42 rfl)
theorem dX6_tailsAboveZero_15 : decode cX6_tailsAboveZero 15 = .ok (.getfield 19, 3) := @dq_o180 cX6_tailsAboveZero 15 0 19 (qX6_tailsAboveZero_0 15 180 rfl) (qX6_tailsAboveZero_1 0 0 rfl) (qX6_tailsAboveZero_1 1 19 rfl)
theorem dX6_tailsAboveZero_18 : decode cX6_tailsAboveZero 18 = .ok (.iload_n 2, 1) := @dq_o28 cX6_tailsAboveZero 18 (qX6_tailsAboveZero_1 2 28 rfl)
theorem dX6_tailsAboveZero_19 : decode cX6_tailsAboveZero 19 = .ok (.iaload, 1) := @dq_o46 cX6_tailsAboveZero 19 (qX6_tailsAboveZero_1 3 46 rfl)
theorem dX6_tailsAboveZero_20 : decode cX6_tailsAboveZero 20 = .ok (.ifCond .le 7, 3) := @dq_o158 cX6_tailsAboveZero 20 0 7 (qX6_tailsAboveZero_1 4 158 rfl) (qX6_tailsAboveZero_1 5 0 rfl) (qX6_tailsAboveZero_1 6 7 rfl)
theorem dX6_tailsAboveZero_23 : decode cX6_tailsAboveZero 23 = .ok (.iconst 1, 1) := @dq_o4 cX6_tailsAboveZero 23 (qX6_tailsAboveZero_1 7 4 rfl)
theorem dX6_tailsAboveZero_24 : decode cX6_tailsAboveZero 24 = .ok (.goto 4, 3) := @dq_o167 cX6_tailsAboveZero 24 0 4 (qX6_tailsAboveZero_1 8 167 rfl) (qX6_tailsAboveZero_1 9 0 rfl) (qX6_tailsAboveZero_1 10 4 rfl)
theorem dX6_tailsAboveZero_27 : decode cX6_tailsAboveZero 27 = .ok (.iconst 0, 1) := @dq_o3 cX6_tailsAboveZero 27 (qX6_tailsAboveZero_1 11 3 rfl)
theorem dX6_tailsAboveZero_28 : decode cX6_tailsAboveZero 28 = .ok (.iadd, 1) := @dq_o96 cX6_tailsAboveZero 28 (qX6_tailsAboveZero_1 12 96 rfl)
theorem dX6_tailsAboveZero_29 : decode cX6_tailsAboveZero 29 = .ok (.istore_n 1, 1) := @dq_o60 cX6_tailsAboveZero 29 (qX6_tailsAboveZero_1 13 60 rfl)
theorem dX6_tailsAboveZero_30 : decode cX6_tailsAboveZero 30 = .ok (.iinc 2 1, 3) := @dq_o132 cX6_tailsAboveZero 30 2 1 (qX6_tailsAboveZero_1 14 132 rfl) (qX6_tailsAboveZero_1 15 2 rfl) (qX6_tailsAboveZero_2 0 1 rfl)
theorem dX6_tailsAboveZero_33 : decode cX6_tailsAboveZero 33 = .ok (.goto (-29), 3) := @dq_o167 cX6_tailsAboveZero 33 255 227 (qX6_tailsAboveZero_2 1 167 rfl) (qX6_tailsAboveZero_2 2 255 rfl) (qX6_tailsAboveZero_2 3 227 rfl)
theorem dX6_tailsAboveZero_36 : decode cX6_tailsAboveZero 36 = .ok (.iload_n 1, 1) := @dq_o27 cX6_tailsAboveZero 36 (qX6_tailsAboveZero_2 4 27 rfl)
theorem dX6_tailsAboveZero_37 : decode cX6_tailsAboveZero 37 = .ok (.ireturn, 1) := @dq_o172 cX6_tailsAboveZero 37 (qX6_tailsAboveZero_2 5 172 rfl)
abbrev qaX6_isCentral_0 : List Nat := [3, 61, 28, 42, 180, 0, 9, 162, 0, 45, 3, 62, 29, 42, 180, 0]
abbrev qaX6_isCentral_1 : List Nat := [9, 162, 0, 29, 42, 28, 27, 184, 0, 59, 28, 27, 184, 0, 65, 29]
abbrev qaX6_isCentral_2 : List Nat := [182, 0, 55, 153, 0, 5, 3, 172, 132, 3, 1, 167, 255, 225, 132, 2]
abbrev qaX6_isCentral_3 : List Nat := [1, 167, 255, 209, 4, 172]
def qtX6_isCentral_4 : List Nat := []
def qtX6_isCentral_3 : List Nat := qaX6_isCentral_3 ++ qtX6_isCentral_4
def qtX6_isCentral_2 : List Nat := qaX6_isCentral_2 ++ qtX6_isCentral_3
def qtX6_isCentral_1 : List Nat := qaX6_isCentral_1 ++ qtX6_isCentral_2
def qtX6_isCentral_0 : List Nat := qaX6_isCentral_0 ++ qtX6_isCentral_1
theorem qeX6_isCentral : cX6_isCentral.data.toList.map UInt8.toNat = qtX6_isCentral_0 := by decide +kernel
theorem qsX6_isCentral_0 : ∀ i, dqNth qtX6_isCentral_0 (0 + i) = dqNth qtX6_isCentral_0 i := fun i => by rw [Nat.zero_add]
theorem qsX6_isCentral_1 : ∀ i, dqNth qtX6_isCentral_0 (16 + i) = dqNth qtX6_isCentral_1 i := dq_step qsX6_isCentral_0 rfl rfl
theorem qsX6_isCentral_2 : ∀ i, dqNth qtX6_isCentral_0 (32 + i) = dqNth qtX6_isCentral_2 i := dq_step qsX6_isCentral_1 rfl rfl
theorem qsX6_isCentral_3 : ∀ i, dqNth qtX6_isCentral_0 (48 + i) = dqNth qtX6_isCentral_3 i := dq_step qsX6_isCentral_2 rfl rfl
theorem qX6_isCentral_0 (i b : Nat) (h : dqNth qaX6_isCentral_0 i = some b) : DqBy cX6_isCentral (0 + i) b := dqBy_of qeX6_isCentral ((qsX6_isCentral_0 i).trans (dq_in h))
theorem qX6_isCentral_1 (i b : Nat) (h : dqNth qaX6_isCentral_1 i = some b) : DqBy cX6_isCentral (16 + i) b := dqBy_of qeX6_isCentral ((qsX6_isCentral_1 i).trans (dq_in h))
theorem qX6_isCentral_2 (i b : Nat) (h : dqNth qaX6_isCentral_2 i = some b) : DqBy cX6_isCentral (32 + i) b := dqBy_of qeX6_isCentral ((qsX6_isCentral_2 i).trans (dq_in h))
theorem qX6_isCentral_3 (i b : Nat) (h : dqNth qaX6_isCentral_3 i = some b) : DqBy cX6_isCentral (48 + i) b := dqBy_of qeX6_isCentral ((qsX6_isCentral_3 i).trans (dq_in h))
theorem dX6_isCentral_0 : decode cX6_isCentral 0 = .ok (.iconst 0, 1) := @dq_o3 cX6_isCentral 0 (qX6_isCentral_0 0 3 rfl)
theorem dX6_isCentral_1 : decode cX6_isCentral 1 = .ok (.istore_n 2, 1) := @dq_o61 cX6_isCentral 1 (qX6_isCentral_0 1 61 rfl)
theorem dX6_isCentral_2 : decode cX6_isCentral 2 = .ok (.iload_n 2, 1) := @dq_o28 cX6_isCentral 2 (qX6_isCentral_0 2 28 rfl)
theorem dX6_isCentral_3 : decode cX6_isCentral 3 = .ok (.aload_n 0, 1) := @dq_o42 cX6_isCentral 3 (qX6_isCentral_0 3 42 rfl)
theorem dX6_isCentral_4 : decode cX6_isCentral 4 = .ok (.getfield 9, 3) := @dq_o180 cX6_isCentral 4 0 9 (qX6_isCentral_0 4 180 rfl) (qX6_isCentral_0 5 0 rfl) (qX6_isCentral_0 6 9 rfl)
theorem dX6_isCentral_7 : decode cX6_isCentral 7 = .ok (.if_icmp .ge 45, 3) := @dq_o162 cX6_isCentral 7 0 45 (qX6_isCentral_0 7 162 rfl) (qX6_isCentral_0 8 0 rfl) (qX6_isCentral_0 9 45 rfl)
theorem dX6_isCentral_10 : decode cX6_isCentral 10 = .ok (.iconst 0, 1) := @dq_o3 cX6_isCentral 10 (qX6_isCentral_0 10 3 rfl)
theorem dX6_isCentral_11 : decode cX6_isCentral 11 = .ok (.istore_n 3, 1) := @dq_o62 cX6_isCentral 11 (qX6_isCentral_0 11 62 rfl)
theorem dX6_isCentral_12 : decode cX6_isCentral 12 = .ok (.iload_n 3, 1) := @dq_o29 cX6_isCentral 12 (qX6_isCentral_0 12 29 rfl)
theorem dX6_isCentral_13 : decode cX6_isCentral 13 = .ok (.aload_n 0, 1) := @dq_o42 cX6_isCentral 13 (qX6_isCentral_0 13 42 rfl)
theorem dX6_isCentral_14 : decode cX6_isCentral 14 = .ok (.getfield 9, 3) := @dq_o180 cX6_isCentral 14 0 9 (qX6_isCentral_0 14 180 rfl) (qX6_isCentral_0 15 0 rfl) (qX6_isCentral_1 0 9 rfl)
theorem dX6_isCentral_17 : decode cX6_isCentral 17 = .ok (.if_icmp .ge 29, 3) := @dq_o162 cX6_isCentral 17 0 29 (qX6_isCentral_1 1 162 rfl) (qX6_isCentral_1 2 0 rfl) (qX6_isCentral_1 3 29 rfl)
theorem dX6_isCentral_20 : decode cX6_isCentral 20 = .ok (.aload_n 0, 1) := @dq_o42 cX6_isCentral 20 (qX6_isCentral_1 4 42 rfl)
theorem dX6_isCentral_21 : decode cX6_isCentral 21 = .ok (.iload_n 2, 1) := @dq_o28 cX6_isCentral 21 (qX6_isCentral_1 5 28 rfl)
theorem dX6_isCentral_22 : decode cX6_isCentral 22 = .ok (.iload_n 1, 1) := @dq_o27 cX6_isCentral 22 (qX6_isCentral_1 6 27 rfl)
theorem dX6_isCentral_23 : decode cX6_isCentral 23 = .ok (.invokestatic 59, 3) := @dq_o184 cX6_isCentral 23 0 59 (qX6_isCentral_1 7 184 rfl) (qX6_isCentral_1 8 0 rfl) (qX6_isCentral_1 9 59 rfl)
theorem dX6_isCentral_26 : decode cX6_isCentral 26 = .ok (.iload_n 2, 1) := @dq_o28 cX6_isCentral 26 (qX6_isCentral_1 10 28 rfl)
theorem dX6_isCentral_27 : decode cX6_isCentral 27 = .ok (.iload_n 1, 1) := @dq_o27 cX6_isCentral 27 (qX6_isCentral_1 11 27 rfl)
theorem dX6_isCentral_28 : decode cX6_isCentral 28 = .ok (.invokestatic 65, 3) := @dq_o184 cX6_isCentral 28 0 65 (qX6_isCentral_1 12 184 rfl) (qX6_isCentral_1 13 0 rfl) (qX6_isCentral_1 14 65 rfl)
theorem dX6_isCentral_31 : decode cX6_isCentral 31 = .ok (.iload_n 3, 1) := @dq_o29 cX6_isCentral 31 (qX6_isCentral_1 15 29 rfl)
theorem dX6_isCentral_32 : decode cX6_isCentral 32 = .ok (.invokevirtual 55, 3) := @dq_o182 cX6_isCentral 32 0 55 (qX6_isCentral_2 0 182 rfl) (qX6_isCentral_2 1 0 rfl) (qX6_isCentral_2 2 55 rfl)
theorem dX6_isCentral_35 : decode cX6_isCentral 35 = .ok (.ifCond .eq 5, 3) := @dq_o153 cX6_isCentral 35 0 5 (qX6_isCentral_2 3 153 rfl) (qX6_isCentral_2 4 0 rfl) (qX6_isCentral_2 5 5 rfl)
theorem dX6_isCentral_38 : decode cX6_isCentral 38 = .ok (.iconst 0, 1) := @dq_o3 cX6_isCentral 38 (qX6_isCentral_2 6 3 rfl)
theorem dX6_isCentral_39 : decode cX6_isCentral 39 = .ok (.ireturn, 1) := @dq_o172 cX6_isCentral 39 (qX6_isCentral_2 7 172 rfl)
theorem dX6_isCentral_40 : decode cX6_isCentral 40 = .ok (.iinc 3 1, 3) := @dq_o132 cX6_isCentral 40 3 1 (qX6_isCentral_2 8 132 rfl) (qX6_isCentral_2 9 3 rfl) (qX6_isCentral_2 10 1 rfl)
theorem dX6_isCentral_43 : decode cX6_isCentral 43 = .ok (.goto (-31), 3) := @dq_o167 cX6_isCentral 43 255 225 (qX6_isCentral_2 11 167 rfl) (qX6_isCentral_2 12 255 rfl) (qX6_isCentral_2 13 225 rfl)
theorem dX6_isCentral_46 : decode cX6_isCentral 46 = .ok (.iinc 2 1, 3) := @dq_o132 cX6_isCentral 46 2 1 (qX6_isCentral_2 14 132 rfl) (qX6_isCentral_2 15 2 rfl) (qX6_isCentral_3 0 1 rfl)
theorem dX6_isCentral_49 : decode cX6_isCentral 49 = .ok (.goto (-47), 3) := @dq_o167 cX6_isCentral 49 255 209 (qX6_isCentral_3 1 167 rfl) (qX6_isCentral_3 2 255 rfl) (qX6_isCentral_3 3 209 rfl)
theorem dX6_isCentral_52 : decode cX6_isCentral 52 = .ok (.iconst 1, 1) := @dq_o4 cX6_isCentral 52 (qX6_isCentral_3 4 4 rfl)
theorem dX6_isCentral_53 : decode cX6_isCentral 53 = .ok (.ireturn, 1) := @dq_o172 cX6_isCentral 53 (qX6_isCentral_3 5 172 rfl)
abbrev qaX6_countOf_0 : List Nat := [3, 61, 3, 62, 29, 42, 180, 0, 9, 162, 0, 27, 28, 42, 180, 0]
abbrev qaX6_countOf_1 : List Nat := [15, 29, 46, 27, 160, 0, 7, 4, 167, 0, 4, 3, 96, 61, 132, 3]
abbrev qaX6_countOf_2 : List Nat := [1, 167, 255, 227, 28, 172]
def qtX6_countOf_3 : List Nat := []
def qtX6_countOf_2 : List Nat := qaX6_countOf_2 ++ qtX6_countOf_3
def qtX6_countOf_1 : List Nat := qaX6_countOf_1 ++ qtX6_countOf_2
def qtX6_countOf_0 : List Nat := qaX6_countOf_0 ++ qtX6_countOf_1
theorem qeX6_countOf : cX6_countOf.data.toList.map UInt8.toNat = qtX6_countOf_0 := by decide +kernel
theorem qsX6_countOf_0 : ∀ i, dqNth qtX6_countOf_0 (0 + i) = dqNth qtX6_countOf_0 i := fun i => by rw [Nat.zero_add]
theorem qsX6_countOf_1 : ∀ i, dqNth qtX6_countOf_0 (16 + i) = dqNth qtX6_countOf_1 i := dq_step qsX6_countOf_0 rfl rfl
theorem qsX6_countOf_2 : ∀ i, dqNth qtX6_countOf_0 (32 + i) = dqNth qtX6_countOf_2 i := dq_step qsX6_countOf_1 rfl rfl
theorem qX6_countOf_0 (i b : Nat) (h : dqNth qaX6_countOf_0 i = some b) : DqBy cX6_countOf (0 + i) b := dqBy_of qeX6_countOf ((qsX6_countOf_0 i).trans (dq_in h))
theorem qX6_countOf_1 (i b : Nat) (h : dqNth qaX6_countOf_1 i = some b) : DqBy cX6_countOf (16 + i) b := dqBy_of qeX6_countOf ((qsX6_countOf_1 i).trans (dq_in h))
theorem qX6_countOf_2 (i b : Nat) (h : dqNth qaX6_countOf_2 i = some b) : DqBy cX6_countOf (32 + i) b := dqBy_of qeX6_countOf ((qsX6_countOf_2 i).trans (dq_in h))
theorem dX6_countOf_0 : decode cX6_countOf 0 = .ok (.iconst 0, 1) := @dq_o3 cX6_countOf 0 (qX6_countOf_0 0 3 rfl)
theorem dX6_countOf_1 : decode cX6_countOf 1 = .ok (.istore_n 2, 1) := @dq_o61 cX6_countOf 1 (qX6_countOf_0 1 61 rfl)
theorem dX6_countOf_2 : decode cX6_countOf 2 = .ok (.iconst 0, 1) := @dq_o3 cX6_countOf 2 (qX6_countOf_0 2 3 rfl)
theorem dX6_countOf_3 : decode cX6_countOf 3 = .ok (.istore_n 3, 1) := @dq_o62 cX6_countOf 3 (qX6_countOf_0 3 62 rfl)
theorem dX6_countOf_4 : decode cX6_countOf 4 = .ok (.iload_n 3, 1) := @dq_o29 cX6_countOf 4 (qX6_countOf_0 4 29 rfl)
theorem dX6_countOf_5 : decode cX6_countOf 5 = .ok (.aload_n 0, 1) := @dq_o42 cX6_countOf 5 (qX6_countOf_0 5 42 rfl)
theorem dX6_countOf_6 : decode cX6_countOf 6 = .ok (.getfield 9, 3) := @dq_o180 cX6_countOf 6 0 9 (qX6_countOf_0 6 180 rfl) (qX6_countOf_0 7 0 rfl) (qX6_countOf_0 8 9 rfl)
theorem dX6_countOf_9 : decode cX6_countOf 9 = .ok (.if_icmp .ge 27, 3) := @dq_o162 cX6_countOf 9 0 27 (qX6_countOf_0 9 162 rfl) (qX6_countOf_0 10 0 rfl) (qX6_countOf_0 11 27 rfl)
theorem dX6_countOf_12 : decode cX6_countOf 12 = .ok (.iload_n 2, 1) := @dq_o28 cX6_countOf 12 (qX6_countOf_0 12 28 rfl)
theorem dX6_countOf_13 : decode cX6_countOf 13 = .ok (.aload_n 0, 1) := @dq_o42 cX6_countOf 13 (qX6_countOf_0 13 42 rfl)
theorem dX6_countOf_14 : decode cX6_countOf 14 = .ok (.getfield 15, 3) := @dq_o180 cX6_countOf 14 0 15 (qX6_countOf_0 14 180 rfl) (qX6_countOf_0 15 0 rfl) (qX6_countOf_1 0 15 rfl)
theorem dX6_countOf_17 : decode cX6_countOf 17 = .ok (.iload_n 3, 1) := @dq_o29 cX6_countOf 17 (qX6_countOf_1 1 29 rfl)
theorem dX6_countOf_18 : decode cX6_countOf 18 = .ok (.iaload, 1) := @dq_o46 cX6_countOf 18 (qX6_countOf_1 2 46 rfl)
theorem dX6_countOf_19 : decode cX6_countOf 19 = .ok (.iload_n 1, 1) := @dq_o27 cX6_countOf 19 (qX6_countOf_1 3 27 rfl)
theorem dX6_countOf_20 : decode cX6_countOf 20 = .ok (.if_icmp .ne 7, 3) := @dq_o160 cX6_countOf 20 0 7 (qX6_countOf_1 4 160 rfl) (qX6_countOf_1 5 0 rfl) (qX6_countOf_1 6 7 rfl)
theorem dX6_countOf_23 : decode cX6_countOf 23 = .ok (.iconst 1, 1) := @dq_o4 cX6_countOf 23 (qX6_countOf_1 7 4 rfl)
theorem dX6_countOf_24 : decode cX6_countOf 24 = .ok (.goto 4, 3) := @dq_o167 cX6_countOf 24 0 4 (qX6_countOf_1 8 167 rfl) (qX6_countOf_1 9 0 rfl) (qX6_countOf_1 10 4 rfl)
theorem dX6_countOf_27 : decode cX6_countOf 27 = .ok (.iconst 0, 1) := @dq_o3 cX6_countOf 27 (qX6_countOf_1 11 3 rfl)
theorem dX6_countOf_28 : decode cX6_countOf 28 = .ok (.iadd, 1) := @dq_o96 cX6_countOf 28 (qX6_countOf_1 12 96 rfl)
theorem dX6_countOf_29 : decode cX6_countOf 29 = .ok (.istore_n 2, 1) := @dq_o61 cX6_countOf 29 (qX6_countOf_1 13 61 rfl)
theorem dX6_countOf_30 : decode cX6_countOf 30 = .ok (.iinc 3 1, 3) := @dq_o132 cX6_countOf 30 3 1 (qX6_countOf_1 14 132 rfl) (qX6_countOf_1 15 3 rfl) (qX6_countOf_2 0 1 rfl)
theorem dX6_countOf_33 : decode cX6_countOf 33 = .ok (.goto (-29), 3) := @dq_o167 cX6_countOf 33 255 227 (qX6_countOf_2 1 167 rfl) (qX6_countOf_2 2 255 rfl) (qX6_countOf_2 3 227 rfl)
theorem dX6_countOf_36 : decode cX6_countOf 36 = .ok (.iload_n 2, 1) := @dq_o28 cX6_countOf 36 (qX6_countOf_2 4 28 rfl)
theorem dX6_countOf_37 : decode cX6_countOf 37 = .ok (.ireturn, 1) := @dq_o172 cX6_countOf 37 (qX6_countOf_2 5 172 rfl)
abbrev qaX7_init_0 : List Nat := [42, 183, 0, 3, 42, 187, 0, 9, 89, 183, 0, 11, 181, 0, 12, 42]
abbrev qaX7_init_1 : List Nat := [187, 0, 9, 89, 183, 0, 11, 181, 0, 18, 42, 16, 6, 189, 0, 21]
abbrev qaX7_init_2 : List Nat := [181, 0, 23, 42, 16, 64, 188, 11, 181, 0, 27, 42, 16, 6, 188, 11]
