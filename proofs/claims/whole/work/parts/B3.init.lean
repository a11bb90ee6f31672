/-! THE BYTES OF THE REFERENCE'S CONSTRUCTOR -/
def dBs (code : ByteArray) : Nat → List Nat → Prop
  | _, [] => True
  | p, b :: t => dBy code p b ∧ dBs code (p + 1) t
theorem dBs_app {code : ByteArray} : ∀ {a b : List Nat} {p : Nat}, dBs code p (a ++ b) → dBs code p a ∧ dBs code (p + a.length) b
  | [], b, p => fun h => ⟨trivial, h⟩
  | x :: a, b, p => fun h => by
    have ih := dBs_app (a := a) (b := b) (p := p + 1) h.2
    refine ⟨⟨h.1, ih.1⟩, ?_⟩
    rw [show p + (x :: a).length = p + 1 + a.length by simp; omega]
    exact ih.2
theorem dBs.at {code : ByteArray} : ∀ {l : List Nat} {p : Nat} (_ : dBs code p l) (k : Nat) {b : Nat}, l[k]? = some b → dBy code (p + k) b
  | [], p, h, k, b, e => by simp at e
  | x :: t, p, h, 0, b, e => by
    have e2 : x = b := by simpa using e
    rw [← e2]; exact h.1
  | x :: t, p, h, k + 1, b, e => by
    have := dBs.at (l := t) h.2 k (b := b) (by simpa using e)
    rw [show p + (k + 1) = p + 1 + k by omega]
    exact this
def eqU : List UInt8 → List Nat → Bool
  | [], [] => true
  | a :: s, b :: t => Nat.beq a.toNat b && eqU s t
  | _, _ => false
theorem dBs_all {code : ByteArray} : ∀ (l : List Nat) (s pre : List UInt8), code.data.toList = pre ++ s → eqU s l = true → dBs code pre.length l
  | [], s, pre => fun _ _ => trivial
  | b :: t, [], pre => fun _ h => by simp [eqU] at h
  | b :: t, x :: s, pre => fun e h => by
    unfold eqU at h
    rw [Bool.and_eq_true] at h
    have hl : pre.length < code.data.toList.length := by rw [e]; simp
    refine ⟨⟨by simpa using hl, ?_⟩, ?_⟩
    · have g : code.data.toList[pre.length]'hl = x := by
        simp [e]
      show (code.data[pre.length]'(by simpa using hl)).toNat = b
      rw [← Array.getElem_toList, g]
      exact Nat.eq_of_beq_eq_true h.1
    · have := dBs_all t s (pre ++ [x]) (by rw [e]; simp) h.2
      rw [List.length_append] at this
      exact this
def pshI (v : Int) : List Nat := if -1 ≤ v ∧ v ≤ 5 then [(v + 3).toNat] else if -128 ≤ v ∧ v < 128 then [16, (v % 256).toNat] else [17, (v % 65536).toNat / 256, (v % 65536).toNat % 256]
def pshB (i : Nat) (v : Int) : List Nat := if -32768 ≤ v ∧ v < 32768 then pshI v else [18, 116 + i]
def rowB : Nat → List Int → List Nat
  | _, [] => []
  | i, v :: t => 89 :: (pshI i ++ (pshB i v ++ (79 :: rowB (i + 1) t)))
/-- a setting of a field: kind of the array (0: a number), slot, link, length or number, what the array holds -/
abbrev jOp : Type := Nat × Nat × Nat × Int × List Int
def opB (o : jOp) : List Nat := 42 :: (pshI o.2.2.2.1 ++ ((if o.1 = 0 then [] else 188 :: (if o.1 = 10 then 10 else if o.1 = 11 then 8 else 4) :: rowB 0 o.2.2.2.2) ++ [181, o.2.2.1 / 256, o.2.2.1 % 256]))
def opsB : List jOp → List Nat
  | [] => []
  | o :: t => opB o ++ opsB t
def iniO : List jOp := [(10, 0, 7, 640, jRUL), (10, 1, 13, 600, []), (10, 2, 16, 600, []), (10, 3, 19, 600, []), (10, 4, 22, 600, []), (10, 5, 25, 600, []), (0, 6, 28, 0, []), (10, 7, 32, 120, []), (10, 8, 35, 120, []), (10, 9, 38, 120, []), (12, 10, 41, 120, []), (0, 11, 45, 0, []), (0, 12, 48, 0, []), (10, 13, 51, 10, []), (10, 14, 54, 201, []), (10, 15, 57, 201, []), (10, 16, 60, 402, []), (11, 17, 63, 18100, []), (11, 18, 67, 600, []), (0, 19, 70, 0, []), (11, 20, 73, 600, []), (0, 21, 76, 0, []), (0, 22, 79, 2025, []), (0, 23, 82, 0, []), (0, 24, 85, (-1), []), (0, 25, 88, 0, []), (0, 26, 91, 0, []), (10, 27, 95, 100, []), (10, 28, 98, 21, []), (0, 29, 101, 0, []), (0, 30, 104, 0, []), (0, 31, 107, 0, []), (11, 32, 110, 4000, []), (0, 33, 113, 0, []), (10, 34, 222, 106, jWID), (10, 35, 225, 106, []), (10, 37, 228, 110, []), (0, 38, 231, 0, []), (10, 39, 234, 102, []), (10, 40, 237, 102, []), (11, 41, 240, 50, []), (11, 42, 243, 2000, []), (0, 43, 246, 0, []), (0, 44, 249, 0, []), (0, 45, 252, 0, []), (0, 46, 255, 0, []), (10, 47, 258, 102, []), (10, 48, 261, 102, []), (0, 49, 264, 0, []), (0, 50, 267, 0, []), (0, 51, 270, 0, [])]
def iniZ : List Nat := [42, 182, 1, 17, 3, 60, 27, 16, 106, 162, 0, 26, 42, 180, 0, 225, 27, 42, 180, 0, 222, 27, 46, 16, 6, 184, 1, 20, 79, 132, 1, 1, 167, 255, 230, 42, 19, 1, 24, 16, 7, 184, 1, 20, 181, 1, 25, 177]
theorem iniB : eqU cX11_init.data.toList (42 :: 183 :: 0 :: 1 :: (opsB iniO ++ iniZ)) = true := by decide +kernel
