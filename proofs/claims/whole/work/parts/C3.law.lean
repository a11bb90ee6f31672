/-! THE LAW: both sides at once -/
/-- both sides stand: the press at s, the reference at t; b: the heap at the start of the loop -/
def lwH (b h : jH) (s t : jP) : Prop := isLP h 10 s ∧ isMD h 734 t ∧ hK h 764 = 13 ∧ hN h 764 = 1 ∧ hK h 4 = 21 ∧ hN h 4 = hN b 4 ∧ (∀ i, hA h 4 i = hA b 4 i) ∧ 765 ≤ hS h ∧ hN b 4 ≤ 3072
section LW
variable {b h h1 : jH} {s s' t t' : jP}
theorem lwH.p (I : lwH b h s t) {a e : Nat} (f : jFr a e h h1) (ha : 10 ≤ a ∧ e ≤ 734) (H : isLP h1 10 s') : lwH b h1 s' t ∧ hS h1 = hS h ∧ hT h1 = hT h := by
  obtain ⟨q1, q2, q3, q4, q5, q6, q7, q8, q9⟩ := I
  have u : uFr 734 765 h h1 := f.u (.inr ha.2)
  have v : uFr 0 10 h h1 := f.u (.inl ha.1)
  exact ⟨⟨H, u.md q2 (by omega), (u.k (by omega)).trans q3, (u.len (by omega)).trans q4, (v.k (by omega)).trans q5, (v.len (by omega)).trans q6, fun i => (v.a (by omega) i).trans (q7 i), by rw [f.2.2.1]; exact q8, q9⟩, f.2.2.1, f.2.2.2.1⟩
theorem lwH.m (I : lwH b h s t) {fs as : List Nat} (f : mFr 734 fs as h h1) (has : ∀ a ∈ as, a < 30) (H : isMD h1 734 t') : lwH b h1 s t' ∧ hS h1 = hS h ∧ hT h1 = hT h := by
  obtain ⟨q1, q2, q3, q4, q5, q6, q7, q8, q9⟩ := I
  have u : uFr 0 734 h h1 := f.u (Nat.le_refl _)
  have fr := f.fr has
  exact ⟨⟨u.lp q1 (by omega), H, by rw [fr.1]; exact q3, by rw [fr.2.1]; exact q4, (u.k (by omega)).trans q5, (u.len (by omega)).trans q6, fun i => (u.a (by omega) i).trans (q7 i), by rw [fr.2.2.1]; exact q8, q9⟩, fr.2.2.1, fr.2.2.2.1⟩
theorem lwH.x (I : lwH b h s t) : lwH b (sN h 16 0 6) s t := by
  obtain ⟨q1, q2, q3, q4, q5, q6, q7, q8, q9⟩ := I
  have u : uFr 0 765 h (sN h 16 0 6) := uFr.sN q8 _ _ _
  exact ⟨u.lp q1 (by omega), u.md q2 (by omega), (u.k (by omega)).trans q3, (u.len (by omega)).trans q4, (u.k (by omega)).trans q5, (u.len (by omega)).trans q6, fun i => (u.a (by omega) i).trans (q7 i), by rw [hS_sN]; omega, q9⟩
theorem lwH.o (I : lwH b h s t) (v : Int) : lwH b (sA h 764 0 v) s t := by
  obtain ⟨q1, q2, q3, q4, q5, q6, q7, q8, q9⟩ := I
  have u : uFr 0 764 h (sA h 764 0 v) := uFr.rfl.sA (.inr (Nat.le_refl _))
  exact ⟨u.lp q1 (by omega), u.md q2 (by omega), q3, q4, q5, q6, fun i => (u.a (by omega) i).trans (q7 i), q8, q9⟩
theorem lwH.sc (I : lwH b h s t) (i : Int) : hA h 4 i = hA b 4 i := I.2.2.2.2.2.2.1 i
/-- how the loop goes on behind a case -/
abbrev mL_law : jM := (yL_law, cL_law, 8, (some FieldType.boolean), [])
def lwK (b h : jH) (i : Int) (Q : jO → jH → Prop) : Prop := ∀ h' s', lwH b h' s' s' → jInv s' → hS h' ≤ hS h + 1 → hT h' ≤ hT h + 6 → jWp 14 mL_law 1482 [(0, jR 4), (1, jR 10), (2, jR 734), (3, jR 764), (4, jI i)] [] h' Q
theorem lwH.k4 (I : lwH b h s t) : hK h 4 = 21 := I.2.2.2.2.1
theorem lwH.n4 (I : lwH b h s t) : hN h 4 = hN b 4 := I.2.2.2.2.2.1
theorem lwH.k10 (I : lwH b h s t) : hK h 10 = 8 := I.1.1.1
theorem lwH.k734 (I : lwH b h s t) : hK h 734 = 9 := I.2.1.1.k
end LW
