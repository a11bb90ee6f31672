/-! WHAT THE CONSTRUCTORS MAKE: bars -/
def sumD (w : Int) : Nat → Int → Nat
  | 0, _ => 0
  | n + 1, u => (w / u % 10).toNat + sumD w n (max (u / 10) 1)
theorem repB2_rg (b : Int) (hb : 0 ≤ b ∧ b ≤ 1) : ∀ (n : Nat) (a : Int) (m : Nat), 0 ≤ a → a < ((2 ^ m : Nat) : Int) → 0 ≤ repB2 n b a ∧ repB2 n b a < ((2 ^ (m + n) : Nat) : Int)
  | 0, a, m => fun h0 h1 => ⟨h0, h1⟩
  | n + 1, a, m => fun h0 h1 => by
    have := repB2_rg b hb n (a * 2 + b) (m + 1) (by omega) (by rw [Nat.pow_succ]; omega)
    rw [show m + (n + 1) = m + 1 + n by omega]
    exact this
section PB
variable {d x : Nat} {h h1 h2 : jH} {Q : jO → jH → Prop}
theorem pow30 {m : Nat} (hm : m ≤ 30) : ((2 ^ m : Nat) : Int) ≤ 1073741824 := by
  have := Nat.pow_le_pow_right (n := 2) (by decide) hm
  have e : 2 ^ 30 = 1073741824 := by decide
  omega
theorem s1_pat_42 {w u : Int} {N i : Nat} (hi : i < 100) (hu : 1 ≤ u ∧ u < 2147483648) (n : Nat) : ∀ (c : Nat) (a : Int) (m : Nat), m + n ≤ 30 → c + n ≤ 9 → 0 ≤ a → a < ((2 ^ m : Nat) : Int) → jWp (d + 1) mX1_pattern 25 [(0, jI w), (1, jI N), (2, jI (max (u / 10) 1)), (3, jI (repB2 n (if i % 2 = 0 then 1 else 0) a)), (4, jI ((i : Int) + 1))] [] h Q → jWp (d + 1) mX1_pattern 42 [(0, jI w), (1, jI N), (2, jI u), (3, jI a), (4, jI i), (5, jI ((c : Int) + n)), (6, jI c)] [] h Q := by
  induction n with
  | zero =>
    intro c a m hm hc h0 h1 k
    refine bX1_pattern_42 (fun _ _ _ _ _ _ _ _ => ⟨fun _ => ⟨by omega, s9_max ⟨_, rfl, ⟨by omega, by omega⟩, k⟩⟩, fun z => absurd (by omega) z⟩)
  | succ n ih =>
    intro c a m hm hc h0 h1 k
    have p30 := pow30 (m := m + 1) (by omega)
    rw [Nat.pow_succ] at p30
    refine bX1_pattern_42 (fun _ _ _ _ _ _ _ _ => ⟨fun z => absurd z (by omega), fun _ => ⟨⟨by omega, by omega⟩, by omega, fun o => ?_, fun o => ?_⟩⟩)
    · rw [if_neg (by omega)] at k ih
      have := ih (c + 1) (a * 2 + 0) (m + 1) (by omega) (by omega) (by omega) (by rw [Nat.pow_succ]; omega) k
      rw [show ((c + 1 : Nat) : Int) + n = (c : Int) + ((n + 1 : Nat) : Int) by omega, show ((c + 1 : Nat) : Int) = (c : Int) + 1 by omega] at this
      exact ⟨⟨by omega, by omega⟩, ⟨by omega, by omega⟩, this⟩
    · rw [if_pos (by omega)] at k ih
      have := ih (c + 1) (a * 2 + 1) (m + 1) (by omega) (by omega) (by omega) (by rw [Nat.pow_succ]; omega) k
      rw [show ((c + 1 : Nat) : Int) + n = (c : Int) + ((n + 1 : Nat) : Int) by omega, show ((c + 1 : Nat) : Int) = (c : Int) + 1 by omega] at this
      exact ⟨⟨by omega, by omega⟩, ⟨by omega, by omega⟩, this⟩
theorem s1_pat_25 {w : Int} {N : Nat} (hN : N ≤ 9) (hw : 0 ≤ w ∧ w < 2147483648) (n : Nat) : ∀ (i : Nat) (u a : Int) (m : Nat), i + n = N → 1 ≤ u → u < 2147483648 → m + sumD w n u ≤ 30 → 0 ≤ a → a < ((2 ^ m : Nat) : Int) → Q (.inl (some (jI (patF w n i u a)))) h → jWp (d + 1) mX1_pattern 25 [(0, jI w), (1, jI N), (2, jI u), (3, jI a), (4, jI i)] [] h Q := by
  induction n with
  | zero =>
    intro i u a m hi u0 u1 hm h0 h1 k
    exact bX1_pattern_25 (fun _ _ _ _ _ _ => ⟨fun _ => k, fun z => absurd (by omega) z⟩)
  | succ n ih =>
    intro i u a m hi u0 u1 hm h0 h1 k
    have wu : 0 ≤ w / u := Int.ediv_nonneg hw.1 (by omega)
    unfold sumD at hm
    refine bX1_pattern_25 (fun _ _ _ _ _ _ => ⟨fun z => absurd z (by omega), fun _ => ⟨hw.1, by omega, wu, ?_⟩⟩)
    have rr := repB2_rg (if i % 2 = 0 then 1 else 0) (by split <;> decide) (w / u % 10).toNat a m h0 h1
    have nx := ih (i + 1) (max (u / 10) 1) (repB2 (w / u % 10).toNat (if i % 2 = 0 then 1 else 0) a) (m + (w / u % 10).toNat) (by omega) (by omega) (by omega) (by omega) rr.1 rr.2 k
    have := s1_pat_42 (d := d) (w := w) (u := u) (N := N) (i := i) (h := h) (Q := Q) (by omega) ⟨u0, u1⟩ (w / u % 10).toNat 0 a m (by omega) (by omega) h0 h1 nx
    rw [show ((0 : Nat) : Int) + ((w / u % 10).toNat : Int) = w / u % 10 by omega] at this
    exact this
theorem s1_pat_4 {w : Int} {N : Nat} (hN : N ≤ 9) (hw : 0 ≤ w ∧ w < 2147483648) (hs : sumD w N (((10 : Nat) ^ (N - 1) : Nat) : Int) ≤ 30) (k : Q (.inl (some (jI (patF w N 0 (((10 : Nat) ^ (N - 1) : Nat) : Int) 0)))) h) (n : Nat) : ∀ i : Nat, i + n = N → 1 ≤ i → jWp (d + 1) mX1_pattern 4 [(0, jI w), (1, jI N), (2, jI (((10 : Nat) ^ (i - 1) : Nat) : Int)), (3, jI i)] [] h Q := by
  have b9 : ∀ j : Nat, j ≤ 8 → 1 ≤ 10 ^ j ∧ 10 ^ j ≤ 100000000 := fun j hj => ⟨Nat.one_le_pow _ _ (by decide), Nat.pow_le_pow_right (by decide) hj⟩
  induction n with
  | zero =>
    intro i hi h1
    obtain rfl : i = N := by omega
    have b := b9 (i - 1) (by omega)
    refine bX1_pattern_4 (fun _ _ _ _ _ => ⟨fun _ => ?_, fun z => absurd (by omega) z⟩)
    exact s1_pat_25 hN hw i 0 _ 0 0 (by omega) (by omega) (by omega) (by omega) (by decide) (by decide) k
  | succ n ih =>
    intro i hi h1
    have b := b9 (i - 1 + 1) (by omega)
    rw [Nat.pow_succ] at b
    refine bX1_pattern_4 (fun _ _ _ _ _ => ⟨fun z => absurd z (by omega), fun _ => ⟨⟨by omega, by omega⟩, ⟨by omega, by omega⟩, ?_⟩⟩)
    have := ih (i + 1) (by omega) (by omega)
    rw [show i + 1 - 1 = i - 1 + 1 by omega, Nat.pow_succ, show ((i + 1 : Nat) : Int) = (i : Int) + 1 by omega, show ((10 ^ (i - 1) * 10 : Nat) : Int) = ((10 ^ (i - 1) : Nat) : Int) * 10 by omega] at this
    exact this
theorem s1_pattern {w : Int} {N : Nat} (h1 : 1 ≤ N) (hN : N ≤ 9) (hw : 0 ≤ w ∧ w < 2147483648) (hs : sumD w N (10 ^ (N - 1)) ≤ 30) (k : Q (.inl (some (jI (patV w N)))) h) : jCall (d + 1) mX1_pattern [jI w, jI N] h Q := by
  have e : (((10 : Nat) ^ (N - 1) : Nat) : Int) = (10 : Int) ^ (N - 1) := by simp
  refine bX1_pattern (fun _ _ _ => ?_)
  have := s1_pat_4 (d := d) hN hw (by rw [e]; exact hs) (by rw [e]; exact k) (N - 1) 1 (by omega) (by omega)
  exact this
theorem wid_ok : ∀ w ∈ jWID, (0 ≤ w ∧ w < 2147483648) ∧ sumD w 6 100000 ≤ 30 := by decide +kernel
/-- bars being made -/
def mkBr (h : jH) (B i : Nat) : Prop := hS h = B + 2 ∧ hK h B = 2 ∧ hR h 100 B = B + 1 ∧ hK h (B + 1) = 10 ∧ hN h (B + 1) = 106 ∧ ∀ j : Nat, j < i → hA h (B + 1) (j : Int) = patL.getD j 0
theorem s1_init_loop {B : Nat} {b : jH} (n : Nat) : ∀ (i : Nat) (h : jH), i + n = 106 → mkBr h B i → hT h = hT b + 108 → uFr 0 B b h → (∀ h', hS h' = B + 2 → hT h' = hT b + 108 → uFr 0 B b h' → isBars h' B → Q (.inl none) h') → jWp (d + 2) mX1_init 16 [(0, jR B), (1, jI i)] [] h Q := by
  induction n with
  | zero =>
    intro i h hi M ht f k
    obtain ⟨q0, q1, q2, q3, q4, q5⟩ := M
    refine bX1_init_16 (fun _ _ => ⟨fun _ => ?_, fun w => absurd (by omega) w⟩)
    refine s1_pattern (d := d) (N := 7) (w := 2331112) (by decide) (by decide) (by decide) (by decide +kernel) ⟨_, rfl, q1, k _ q0 ht (f.sI (.inr (Nat.le_refl _))) ⟨q1, q2, q3, q4, fun j hj => q5 j (by omega), ?_⟩⟩
    rw [hI_sI, if_pos ⟨rfl, rfl⟩]
    rfl
  | succ n ih =>
    intro i h hi M ht f k
    obtain ⟨q0, q1, q2, q3, q4, q5⟩ := M
    refine bX1_init_16 (fun _ _ => ⟨fun w => absurd w (by omega), fun _ => ⟨q1, by omega, by omega, fun _ => ?_⟩⟩)
    have l106 : jWID.length = 106 := jS_l1
    have wm : (jS 1).getD (i : Int).toNat 0 ∈ jWID := by
      show jWID.getD (i : Int).toNat 0 ∈ jWID
      rw [List.getD_eq_getElem?_getD, List.getElem?_eq_getElem (by omega)]
      exact List.getElem_mem _
    have wo := wid_ok _ wm
    have pe : patL.getD i 0 = patV ((jS 1).getD (i : Int).toNat 0) 6 := by
      show (jWID.map (fun w => patV w 6)).getD i 0 = patV (jWID.getD i 0) 6
      rw [List.getD_eq_getElem?_getD, List.getD_eq_getElem?_getD, List.getElem?_map, List.getElem?_eq_getElem (by omega)]
      rfl
    refine s1_pattern (d := d) (N := 6) (by decide) (by decide) wo.1 wo.2 ⟨_, rfl, ?_, by omega, ?_, ⟨by omega, by omega⟩, ?_⟩
    · rw [q2]; exact q3
    · rw [q2, q4]; omega
    · rw [q2, ← pe]
      have := ih (i + 1) (sA h (B + 1) (i : Int) (patL.getD i 0)) (by omega) ⟨q0, q1, q2, q3, q4, fun j hj => ?_⟩ ht (f.sA (.inr (by omega))) k
      · rw [show ((i + 1 : Nat) : Int) = (i : Int) + 1 by omega] at this
        exact this
      · rw [hA_sA]
        split
        · rename_i z; rw [show j = i by omega]
        · exact q5 j (by omega)
theorem s1_init (k : ∀ h', jMk h h' 2 108 → isBars h' (hS h) → Q (.inl none) h') : jCall (d + 2) mX1_init [jR (hS h)] (sN h 2 0 2) Q := by
  refine bX1_init (fun ok => ?_)
  have z : 10 ≤ hS h + 1 := ok.2.2.2.1
  refine ⟨by omega, ?_, ?_⟩
  · show (if hS h = hS h + 1 then 10 else if hS h = hS h then 2 else _) = 2
    rw [if_neg (by omega), if_pos rfl]
  refine s1_init_loop (b := h) 106 0 _ (by omega) ⟨rfl, ?_, ?_, ?_, ?_, fun j hj => absurd hj (by omega)⟩ rfl ?_ (fun h1 e1 e2 f1 B1 => k h1 ⟨e1, e2, f1⟩ B1)
  · show (if hS h = hS h + 1 then 10 else if hS h = hS h then 2 else _) = 2
    rw [if_neg (by omega), if_pos rfl]
  · rw [hR_sR, if_pos ⟨rfl, rfl⟩]; rfl
  · show (if hS h + 1 = hS h + 1 then 10 else _) = 10
    rw [if_pos rfl]
  · show (if hS h + 1 = hS h + 1 then (106 : Int) else _) = 106
    rw [if_pos rfl]
  · exact ((uFr.sN (Nat.le_refl _) _ _ _).trans (uFr.sN (by rw [hS_sN]; omega) _ _ _)).sR (.inr (Nat.le_refl _))
end PB
