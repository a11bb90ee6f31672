/-! THE PRESS, MADE -/
def jP0 : jP := (([], [], [], []), ([], fun _ => []), (2025, 0, -1), (0, 0, 0))
def mkP (b h : jH) (x n T : Nat) (F : Nat → Nat) : Prop := hS h = x + n ∧ hT h = hT b + T ∧ hK h x = 8 ∧ (∀ f, hI h f x = 0) ∧ (∀ f, hR h f x = F f) ∧ uFr 0 x b h
def fU (F : Nat → Nat) (f v : Nat) : Nat → Nat := fun y => if y = f then v else F y
section PI
variable {d x : Nat} {b h h1 h2 : jH} {Q : jO → jH → Prop}
theorem mkP.set {n T f v : Nat} {F : Nat → Nat} (p : mkP b h x n T F) : mkP b (sR h f x v) x n T (fU F f v) := by
  obtain ⟨p1, p2, p3, p4, p5, p6⟩ := p
  refine ⟨p1, p2, p3, p4, fun g => ?_, p6.sR (.inr (Nat.le_refl _))⟩
  rw [hR_sR]
  show _ = if g = f then v else F g
  by_cases c : g = f
  · rw [if_pos ⟨c, rfl⟩, if_pos c]
  · rw [if_neg (fun e => c e.1), if_neg c, p5]
theorem mkP.mk {n T k t : Nat} {F : Nat → Nat} (p : mkP b h x n T F) (hn : 1 ≤ n) (q : jMk h h1 k t) : mkP b h1 x (n + k) (T + t) F := by
  obtain ⟨p1, p2, p3, p4, p5, p6⟩ := p
  obtain ⟨q1, q2, q3⟩ := q
  exact ⟨by omega, by omega, (q3.k (by omega)).trans p3, fun f => (q3.i (by omega) f).trans (p4 f), fun f => (q3.r (by omega) f).trans (p5 f), p6.trans (q3.mono (Nat.le_refl _) (by omega))⟩
theorem stp {n k t f v : Nat} (hs : hS h = x + n) (q : jMk (sR h f x v) h1 k t) : uFr (x + 1) (x + n) h h1 :=
  (uFr.rfl.sR (.inl (by omega))).trans (q.2.2.mono (by omega) (by rw [hS_sR]; omega))
/-- the array of shelves, being filled -/
def mkSh (h : jH) (x i : Nat) : Prop := hK h (x + 137) = 15 ∧ hN h (x + 137) = 8 ∧ ∀ j : Nat, j < i → hQ h (x + 137) (j : Int) = x + 138 + 63 * j ∧ isLab h (x + 138 + 63 * j) []
theorem jMk.wk {k t n : Nat} (q : jMk h h1 k t) (hn : n ≤ hS h) : uFr 0 n h h1 := q.u hn
theorem up_init_loop {T : Nat} {F : Nat → Nat} {g : jH} (F7 : F 707 = x + 137) (n : Nat) : ∀ (i : Nat) (h : jH), i + n = 8 → mkP b h x (138 + 63 * i) (T + 2003 * i) F → mkSh h x i → uFr (x + 1) (x + 137) g h → (∀ h', mkP b h' x 642 (T + 16024) F → mkSh h' x 8 → uFr (x + 1) (x + 137) g h' → jWp (d + 5) mX10_init 106 [(0, jR x), (1, jI 8)] [] h' Q) → jWp (d + 5) mX10_init 106 [(0, jR x), (1, jI i)] [] h Q := by
  induction n with
  | zero =>
    intro i h hi M S f k
    obtain rfl : i = 8 := by omega
    exact k h M S f
  | succ n ih =>
    intro i h hi M S f k
    have s0 := M.1
    refine bX10_init_106 (fun ok _ => ⟨fun w => absurd w (by omega), fun _ => ⟨M.2.2.1, ?_, s6_init (d := d + 1) (fun h1 m1 L1 => ?_)⟩⟩)
    · omega
    have u : uFr 0 (hS h) h h1 := m1.2.2
    obtain ⟨S1, S2, S3⟩ := S
    have e7 : hR h 707 x = x + 137 := (M.2.2.2.2.1 707).trans F7
    rw [e7]
    refine ⟨rfl, ?_, by omega, ?_, L1.1.1, ⟨by omega, by omega⟩, ?_⟩
    · rw [u.k (by omega)]; exact S1
    · rw [u.len (by omega), S2]; omega
    have M1 := M.mk (by omega) m1
    have fq := jFr_Q h1 (x + 137) (i : Int) (hS h)
    have M2 : mkP b (sQ h1 (x + 137) (i : Int) (hS h)) x (138 + 63 * (i + 1)) (T + 2003 * (i + 1)) F := by
      obtain ⟨p1, p2, p3, p4, p5, p6⟩ := M1
      exact ⟨by rw [hS_sQ, p1]; omega, by rw [hT_sQ, p2, show T + 2003 * i + 2003 = T + 2003 * (i + 1) from by omega], p3, p4, p5, p6.sQ (.inr (by omega))⟩
    have := ih (i + 1) _ (by omega) M2 ⟨(u.k (by omega)).trans S1, (u.len (by omega)).trans S2, fun j hj => ?_⟩ ((f.trans (u.mono (by omega) (by omega))).sQ (.inr (Nat.le_refl _))) k
    · rw [show ((i + 1 : Nat) : Int) = (i : Int) + 1 by omega] at this
      exact this
    · by_cases c : j = i
      · subst c
        refine ⟨?_, ?_⟩
        · rw [hQ_sQ, if_pos ⟨rfl, rfl⟩]; omega
        · rw [s0] at L1
          rw [show x + 138 + 63 * j = x + (138 + 63 * j) by omega]
          exact fq.lab L1 (.inr (by omega))
      · have q := S3 j (by omega)
        refine ⟨?_, fq.lab (u.lab q.2 (by omega)) (.inr (by omega))⟩
        rw [hQ_sQ, if_neg (by omega), u.q (by omega)]
        exact q.1
end PI
