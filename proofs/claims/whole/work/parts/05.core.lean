/-! THE JUDGEMENT. Abstract values: whole numbers (Int, held in their range), references as numbers (0: null; 1 .. 9: what lies there at the start; from 10 on: what the run makes, in order). -/
abbrev jV : Type := Int ⊕ (Int ⊕ Nat)
abbrev jI (x : Int) : jV := Sum.inl x
abbrev jL (x : Int) : jV := Sum.inr (Sum.inl x)
abbrev jR (k : Nat) : jV := Sum.inr (Sum.inr k)
def j32 (x : Int) : Prop := -2147483648 ≤ x ∧ x < 2147483648
def j64 (x : Int) : Prop := -9223372036854775808 ≤ x ∧ x < 9223372036854775808
def j_rg : jV → Prop
  | .inl x => j32 x
  | .inr (.inl x) => j64 x
  | .inr (.inr _) => True
def j_cat : jV → Nat
  | .inr (.inl _) => 2
  | _ => 1
/-- an abstract heap: int fields, reference fields, int arrays, reference arrays, kinds, lengths, the next number, the slots made -/
abbrev jH : Type := (Nat → Nat → Int) × (Nat → Nat → Nat) × (Nat → Int → Int) × (Nat → Int → Nat) × (Nat → Nat) × (Nat → Int) × Nat × Nat
abbrev hI (h : jH) : Nat → Nat → Int := h.1
abbrev hR (h : jH) : Nat → Nat → Nat := h.2.1
abbrev hA (h : jH) : Nat → Int → Int := h.2.2.1
abbrev hQ (h : jH) : Nat → Int → Nat := h.2.2.2.1
abbrev hK (h : jH) : Nat → Nat := h.2.2.2.2.1
abbrev hN (h : jH) : Nat → Int := h.2.2.2.2.2.1
abbrev hS (h : jH) : Nat := h.2.2.2.2.2.2.1
abbrev hT (h : jH) : Nat := h.2.2.2.2.2.2.2
def j2 {α : Type} (f : Nat → Nat → α) (a b : Nat) (v : α) : Nat → Nat → α := fun x y => if x = a ∧ y = b then v else f x y
def ja {α : Type} (f : Nat → Int → α) (a : Nat) (i : Int) (v : α) : Nat → Int → α := fun x y => if x = a ∧ y = i then v else f x y
def j1 {α : Type} (f : Nat → α) (a : Nat) (v : α) : Nat → α := fun x => if x = a then v else f x
/-- what an array of that kind may hold -/
def j_el (k : Nat) (x : Int) : Prop := if k = 11 then -128 ≤ x ∧ x ≤ 127 else if k = 12 then 0 ≤ x ∧ x ≤ 1 else if k = 13 then j64 x else j32 x
def jOK (h : jH) : Prop := (∀ f o, j32 (hI h f o)) ∧ (∀ a i, j_el (hK h a) (hA h a i)) ∧ (∀ k, 1 ≤ hK h k → hK h k ≤ 16 → 10 ≤ k ∧ k < hS h) ∧ 10 ≤ hS h ∧ ∀ k, 0 ≤ hN h k ∧ hN h k < 2147483648
/-- the world of a run: its classes, the first address that it makes, the addresses of what lay there, the classes of arrays, the script and its length -/
abbrev jG : Type := va_G × Nat × (Nat → Nat) × (Nat → ClassId) × (Nat → Int32) × Nat
def j_ad (G : jG) (k : Nat) : Nat := if k < 10 then G.2.2.1 k else G.2.1 + (k - 10)
def j_rv (G : jG) (k : Nat) : Value := if k = 0 then .null else .ref (j_ad G k)
def j_tr (G : jG) : jV → Value
  | .inl x => .int (Int32.ofInt x)
  | .inr (.inl x) => .long (Int64.ofInt x)
  | .inr (.inr k) => j_rv G k
def j_tl (G : jG) (q : Nat × jV) : Nat × Value := (q.1, j_tr G q.2)
/-- the fields' types, by the classes' places in vwCl -/
def j_ty : Nat → Nat → FieldType
  | 0 => tyX0
  | 1 => tyX1
  | 2 => tyX4
  | 3 => tyX5
  | 4 => tyX6
  | 5 => tyX7
  | 6 => tyX9
  | 7 => tyX10
  | _ => tyX11
def j_isr : FieldType → Bool
  | .object _ => true
  | .array _ => true
  | _ => false
/-- writing -/
def sI (h : jH) (f o : Nat) (v : Int) : jH := (j2 h.1 f o v, h.2)
def sR (h : jH) (f o : Nat) (v : Nat) : jH := (h.1, j2 h.2.1 f o v, h.2.2)
def sA (h : jH) (a : Nat) (i v : Int) : jH := (h.1, h.2.1, ja h.2.2.1 a i v, h.2.2.2)
def sQ (h : jH) (a : Nat) (i : Int) (v : Nat) : jH := (h.1, h.2.1, h.2.2.1, ja h.2.2.2.1 a i v, h.2.2.2.2)
/-- a whole row of an array -/
def sF (h : jH) (a : Nat) (f : Int → Int) : jH := (h.1, h.2.1, j1 h.2.2.1 a f, h.2.2.2)
/-- a new thing of that kind, length and size -/
def sN (h : jH) (kd : Nat) (n : Int) (sz : Nat) : jH := (fun f o => if o = hS h then 0 else h.1 f o, fun f o => if o = hS h then 0 else h.2.1 f o, fun a i => if a = hS h then 0 else h.2.2.1 a i, fun a i => if a = hS h then 0 else h.2.2.2.1 a i, j1 h.2.2.2.2.1 (hS h) kd, j1 h.2.2.2.2.2.1 (hS h) n, hS h + 1, hT h + sz)
theorem j_rd1 (G : jG) {k : Nat} (h : k ≠ 0) : j_rv G k = .ref (j_ad G k) := if_neg h
theorem j_ti {x : Int} (h : j32 x) : (Int32.ofInt x).toInt = x := by
  exact Int32.toInt_ofInt_of_le (by have := h.1; omega) (by have := h.2; omega)
theorem j_tL {x : Int} (h : j64 x) : (Int64.ofInt x).toInt = x := by
  exact Int64.toInt_ofInt_of_le (by have := h.1; omega) (by have := h.2; omega)
theorem j_of (x : Int32) : j32 x.toInt := by
  have h1 := Int32.le_toInt x
  have h2 := Int32.toInt_lt x
  exact ⟨by omega, by omega⟩
theorem j_ofL (x : Int64) : j64 x.toInt := by
  have h1 := Int64.le_toInt x
  have h2 := Int64.toInt_lt x
  exact ⟨by omega, by omega⟩
theorem j_eqI {a : Int32} {x : Int} (h : a.toInt = x) : a = Int32.ofInt x := by rw [← h, Int32.ofInt_toInt]
theorem j_eqL {a : Int64} {x : Int} (h : a.toInt = x) : a = Int64.ofInt x := by rw [← h, Int64.ofInt_toInt]
theorem j_add {x y : Int} (hx : j32 x) (hy : j32 y) (h : j32 (x + y)) : Int32.ofInt x + Int32.ofInt y = Int32.ofInt (x + y) := j_eqI (by
  rw [Int32.toInt_add, j_ti hx, j_ti hy]
  exact Int.bmod_eq_of_le (by have := h.1; omega) (by have := h.2; omega))
theorem j_sub {x y : Int} (hx : j32 x) (hy : j32 y) (h : j32 (x - y)) : Int32.ofInt x - Int32.ofInt y = Int32.ofInt (x - y) := j_eqI (by
  rw [Int32.toInt_sub, j_ti hx, j_ti hy]
  exact Int.bmod_eq_of_le (by have := h.1; omega) (by have := h.2; omega))
theorem j_mul {x y : Int} (hx : j32 x) (hy : j32 y) (h : j32 (x * y)) : Int32.ofInt x * Int32.ofInt y = Int32.ofInt (x * y) := j_eqI (by
  rw [Int32.toInt_mul, j_ti hx, j_ti hy]
  exact Int.bmod_eq_of_le (by have := h.1; omega) (by have := h.2; omega))
theorem j_addL {x y : Int} (hx : j64 x) (hy : j64 y) (h : j64 (x + y)) : Int64.ofInt x + Int64.ofInt y = Int64.ofInt (x + y) := j_eqL (by
  rw [Int64.toInt_add, j_tL hx, j_tL hy]
  exact Int.bmod_eq_of_le (by have := h.1; omega) (by have := h.2; omega))
theorem j_mulL {x y : Int} (hx : j64 x) (hy : j64 y) (h : j64 (x * y)) : Int64.ofInt x * Int64.ofInt y = Int64.ofInt (x * y) := j_eqL (by
  rw [Int64.toInt_mul, j_tL hx, j_tL hy]
  exact Int.bmod_eq_of_le (by have := h.1; omega) (by have := h.2; omega))
theorem j_eq {x y : Int} (hx : j32 x) (hy : j32 y) : Int32.ofInt x = Int32.ofInt y ↔ x = y := by
  rw [← Int32.toInt_inj, j_ti hx, j_ti hy]
theorem j_lt {x y : Int} (hx : j32 x) (hy : j32 y) : Int32.ofInt x < Int32.ofInt y ↔ x < y := by
  rw [Int32.lt_iff_toInt_lt, j_ti hx, j_ti hy]
theorem j_le {x y : Int} (hx : j32 x) (hy : j32 y) : Int32.ofInt x ≤ Int32.ofInt y ↔ x ≤ y := by
  rw [Int32.le_iff_toInt_le, j_ti hx, j_ti hy]
theorem j_0 : (0 : Int32) = Int32.ofInt 0 := rfl
theorem j_r0 : j32 0 := ⟨by decide, by decide⟩
theorem j_div {x y : Int} (hx : j32 x) (hy : j32 y) (h0 : 0 ≤ x) (h1 : 0 < y) : Int32.ofInt x / Int32.ofInt y = Int32.ofInt (x / y) := j_eqI (by
  have hne : Int32.ofInt y ≠ -1 := fun q => by
    have h2 := congrArg Int32.toInt q
    rw [j_ti hy] at h2
    have h3 : (-1 : Int32).toInt = -1 := by decide
    omega
  rw [Int32.toInt_div_of_ne_right _ _ hne, j_ti hx, j_ti hy, Int.tdiv_eq_ediv_of_nonneg h0])
theorem j_div_rg {x y : Int} (hx : j32 x) (h0 : 0 ≤ x) (h1 : 0 < y) : j32 (x / y) := by
  have h2 := Int.ediv_nonneg h0 (Int.le_of_lt h1)
  have h3 := Int.ediv_le_self y h0
  have h4 := hx.2
  exact ⟨by omega, by omega⟩
theorem j_mod_rg {x y : Int} (hy : j32 y) (h1 : 0 < y) : j32 (x % y) := by
  have h2 := Int.emod_nonneg x (by omega : y ≠ 0)
  have h3 := Int.emod_lt_of_pos x h1
  have h4 := hy.2
  exact ⟨by omega, by omega⟩
theorem j_ne0 {y : Int} (hy : j32 y) (h : y ≠ 0) : ¬ Int32.ofInt y = 0 := by
  rw [j_0, j_eq hy j_r0]
  exact h
theorem j_tdiv {x y : Int} (hx : j32 x) (hy : j32 y) (h1 : 0 < y) : Int32.ofInt x / Int32.ofInt y = Int32.ofInt (x.tdiv y) := j_eqI (by
  have hne : Int32.ofInt y ≠ -1 := fun q => by
    have h2 := congrArg Int32.toInt q
    rw [j_ti hy] at h2
    have h3 : (-1 : Int32).toInt = -1 := by decide
    omega
  rw [Int32.toInt_div_of_ne_right _ _ hne, j_ti hx, j_ti hy])
theorem j_tdiv_rg {x y : Int} (hx : j32 x) (h1 : 0 < y) : j32 (x.tdiv y) := by
  have h2 : (x.tdiv y).natAbs ≤ x.natAbs := by
    rw [Int.natAbs_tdiv]
    exact Nat.div_le_self _ _
  have := hx.1; have := hx.2
  by_cases hz : x = -2147483648
  · subst hz
    constructor
    · omega
    · have h4 : Int.tdiv (-2147483648) y ≤ 0 := by
        have h5 := Int.tdiv_nonneg (show (0 : Int) ≤ 2147483648 by decide) (Int.le_of_lt h1)
        have h6 := Int.neg_tdiv 2147483648 y
        omega
      omega
  · exact ⟨by omega, by omega⟩
theorem j_rem {x y : Int} (hx : j32 x) (hy : j32 y) (h1 : 0 < y) : Int32.ofInt x - Int32.ofInt x / Int32.ofInt y * Int32.ofInt y = Int32.ofInt (x.tmod y) := by
  have e1 : x - x.tdiv y * y = x.tmod y := by
    have := Int.tmod_add_tdiv_mul x y
    omega
  have b1 : (x.tmod y).natAbs < y.natAbs := by
    rw [Int.natAbs_tmod]
    exact Nat.mod_lt _ (by omega)
  have b2 : (x.tdiv y * y).natAbs ≤ x.natAbs := by
    rw [Int.natAbs_mul, Int.natAbs_tdiv]
    exact Nat.div_mul_le_self _ _
  have := hx.1; have := hx.2; have := hy.2
  by_cases hp : 0 ≤ x
  · have p1 : 0 ≤ x.tdiv y * y := Int.mul_nonneg (Int.tdiv_nonneg hp (Int.le_of_lt h1)) (Int.le_of_lt h1)
    rw [j_tdiv hx hy h1, j_mul (j_tdiv_rg hx h1) hy ⟨by omega, by omega⟩, j_sub hx ⟨by omega, by omega⟩ (by rw [e1]; exact ⟨by omega, by omega⟩), e1]
  · have p1 : x.tdiv y * y ≤ 0 := by
      have h5 := Int.tdiv_nonneg (show (0 : Int) ≤ -x by omega) (Int.le_of_lt h1)
      have h6 := Int.neg_tdiv x y
      have h7 := Int.mul_nonneg h5 (Int.le_of_lt h1)
      rw [h6, Int.neg_mul] at h7
      omega
    rw [j_tdiv hx hy h1, j_mul (j_tdiv_rg hx h1) hy ⟨by omega, by omega⟩, j_sub hx ⟨by omega, by omega⟩ (by rw [e1]; exact ⟨by omega, by omega⟩), e1]
theorem j_tmod_rg {x y : Int} (hy : j32 y) (h1 : 0 < y) : j32 (x.tmod y) := by
  have b1 : (x.tmod y).natAbs < y.natAbs := by
    rw [Int.natAbs_tmod]
    exact Nat.mod_lt _ (by omega)
  have := hy.2
  exact ⟨by omega, by omega⟩
