/-! BYTES -/
def dBy (code : ByteArray) (p b : Nat) : Prop := ∃ h : p < code.size, code[p].toNat = b
theorem u1_at {code : ByteArray} {p b : Nat} (h : dBy code p b) : ClassFile.Reader.runAt (ClassFile.Reader.u1 : ClassFile.Decoder Nat) code p = .ok (b, p + 1) := by
  obtain ⟨h1, h2⟩ := h
  show (dite (p < code.size) (fun _ => ((do set (p + 1); Pure.pure code[p].toNat) : ClassFile.Decoder Nat)) (fun _ => throw (ClassFile.HasTruncated.truncated p))) code p = _
  rw [dif_pos h1, h2]
  rfl
theorem bind_at {α β : Type} {r : ClassFile.Decoder α} {f : α → ClassFile.Decoder β} {code : ByteArray} {p q : Nat} {x : α} (h : ClassFile.Reader.runAt r code p = .ok (x, q)) : ClassFile.Reader.runAt (r >>= f) code p = ClassFile.Reader.runAt (f x) code q := by
  show Except.bind (ClassFile.Reader.runAt r code p) _ = _
  rw [h]
  rfl
theorem map_at {α β : Type} {r : ClassFile.Decoder α} {f : α → β} {code : ByteArray} {p q : Nat} {x : α} (h : ClassFile.Reader.runAt r code p = .ok (x, q)) : ClassFile.Reader.runAt (f <$> r) code p = .ok (f x, q) := by
  show Except.bind (ClassFile.Reader.runAt r code p) _ = _
  rw [h]
  rfl
theorem u2_at {code : ByteArray} {p a b : Nat} (h : dBy code p a) (h2 : dBy code (p + 1) b) : ClassFile.Reader.runAt (ClassFile.Reader.u2 : ClassFile.Decoder Nat) code p = .ok (a * 256 + b, p + 2) :=
  ((bind_at (u1_at h)).trans (bind_at (u1_at h2))).trans rfl
theorem s1_at {code : ByteArray} {p b : Nat} (h : dBy code p b) : ClassFile.Reader.runAt (ClassFile.Reader.s1 : ClassFile.Decoder Int) code p = .ok (ClassFile.Reader.signed 8 b, p + 1) := map_at (u1_at h)
theorem s2_at {code : ByteArray} {p a b : Nat} (h : dBy code p a) (h2 : dBy code (p + 1) b) : ClassFile.Reader.runAt (ClassFile.Reader.s2 : ClassFile.Decoder Int) code p = .ok (ClassFile.Reader.signed 16 (a * 256 + b), p + 2) := map_at (u2_at h h2)
theorem dec_at {code : ByteArray} {p q b : Nat} {i : Instr} (h : dBy code p b) (h2 : ClassFile.Reader.runAt (ClassFile.Decoder.instr p) code p = .ok (i, q)) : ClassFile.decode code p = .ok (i, q - p) := by
  show Except.bind (ClassFile.Reader.runAt (ClassFile.Decoder.instr p) code p) _ = _
  rw [h2]
  rfl
theorem dec_1 {code : ByteArray} {p : Nat} {i : Instr} (h : ClassFile.Reader.runAt (ClassFile.Decoder.instr p) code p = .ok (i, p + 1)) : ClassFile.decode code p = .ok (i, 1) := by
  show Except.bind (ClassFile.Reader.runAt (ClassFile.Decoder.instr p) code p) _ = _
  rw [h]
  show Except.ok (i, p + 1 - p) = _
  rw [show p + 1 - p = 1 by omega]
theorem dec_2 {code : ByteArray} {p : Nat} {i : Instr} (h : ClassFile.Reader.runAt (ClassFile.Decoder.instr p) code p = .ok (i, p + 2)) : ClassFile.decode code p = .ok (i, 2) := by
  show Except.bind (ClassFile.Reader.runAt (ClassFile.Decoder.instr p) code p) _ = _
  rw [h]
  show Except.ok (i, p + 2 - p) = _
  rw [show p + 2 - p = 2 by omega]
theorem dec_3 {code : ByteArray} {p : Nat} {i : Instr} (h : ClassFile.Reader.runAt (ClassFile.Decoder.instr p) code p = .ok (i, p + 3)) : ClassFile.decode code p = .ok (i, 3) := by
  show Except.bind (ClassFile.Reader.runAt (ClassFile.Decoder.instr p) code p) _ = _
  rw [h]
  show Except.ok (i, p + 3 - p) = _
  rw [show p + 3 - p = 3 by omega]
theorem dec_dup {code : ByteArray} {p : Nat} (h : dBy code p 89) : ClassFile.decode code p = .ok (.dup, 1) := dec_1 ((bind_at (u1_at h)).trans rfl)
theorem dec_al0 {code : ByteArray} {p : Nat} (h : dBy code p 42) : ClassFile.decode code p = .ok (.aload_n 0, 1) := dec_1 ((bind_at (u1_at h)).trans rfl)
theorem dec_ias {code : ByteArray} {p : Nat} (h : dBy code p 79) : ClassFile.decode code p = .ok (.iastore, 1) := dec_1 ((bind_at (u1_at h)).trans rfl)
theorem dec_bip {code : ByteArray} {p b : Nat} (h : dBy code p 16) (h2 : dBy code (p + 1) b) : ClassFile.decode code p = .ok (.bipush (ClassFile.Reader.signed 8 b), 2) := dec_2 ((bind_at (u1_at h)).trans ((bind_at (s1_at h2)).trans rfl))
theorem dec_sip {code : ByteArray} {p a b : Nat} (h : dBy code p 17) (h2 : dBy code (p + 1) a) (h3 : dBy code (p + 2) b) : ClassFile.decode code p = .ok (.sipush (ClassFile.Reader.signed 16 (a * 256 + b)), 3) := dec_3 ((bind_at (u1_at h)).trans ((bind_at (s2_at h2 h3)).trans rfl))
theorem dec_ldc {code : ByteArray} {p b : Nat} (h : dBy code p 18) (h2 : dBy code (p + 1) b) : ClassFile.decode code p = .ok (.ldc b, 2) := dec_2 ((bind_at (u1_at h)).trans ((bind_at (u1_at h2)).trans rfl))
theorem dec_putf {code : ByteArray} {p a b : Nat} (h : dBy code p 181) (h2 : dBy code (p + 1) a) (h3 : dBy code (p + 2) b) : ClassFile.decode code p = .ok (.putfield (a * 256 + b), 3) := dec_3 ((bind_at (u1_at h)).trans ((bind_at (u2_at h2 h3)).trans rfl))
theorem dec_newI {code : ByteArray} {p : Nat} (h : dBy code p 188) (h2 : dBy code (p + 1) 10) : ClassFile.decode code p = .ok (.newarray .int, 2) := dec_2 ((bind_at (u1_at h)).trans ((bind_at (u1_at h2)).trans rfl))
theorem dec_newB {code : ByteArray} {p : Nat} (h : dBy code p 188) (h2 : dBy code (p + 1) 8) : ClassFile.decode code p = .ok (.newarray .byte, 2) := dec_2 ((bind_at (u1_at h)).trans ((bind_at (u1_at h2)).trans rfl))
theorem dec_newZ {code : ByteArray} {p : Nat} (h : dBy code p 188) (h2 : dBy code (p + 1) 4) : ClassFile.decode code p = .ok (.newarray .boolean, 2) := dec_2 ((bind_at (u1_at h)).trans ((bind_at (u1_at h2)).trans rfl))
theorem dec_icn {code : ByteArray} {p b : Nat} (h : dBy code p b) (h0 : 2 ≤ b ∧ b ≤ 8) : ClassFile.decode code p = .ok (.iconst ((b : Int) - 3), 1) := by
  refine dec_1 ((bind_at (u1_at h)).trans ?_)
  rcases (show b = 2 ∨ b = 3 ∨ b = 4 ∨ b = 5 ∨ b = 6 ∨ b = 7 ∨ b = 8 by omega) with e | e | e | e | e | e | e <;> subst e <;> rfl
