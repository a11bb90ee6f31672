/-! THE PRESS: elements told; shelves -/
def elemV (y : jE) (w : Int) : Int := if w = 0 then y.1 else if w = 1 then y.2.1 else if w = 2 then y.2.2.1.length else if w = 3 then pcV (lineV y.1 y.2.1) y.2.2.1.length 4 else if w = 4 then ptV y else if w = 5 then b2i (fixV y.1 y.2.1) else -1
def partW (y : jE) (j w : Int) : Int := if pbV (lineV y.1 y.2.1) y.2.2.1.length j = -1 then -1 else if w = 0 then psV (lineV y.1 y.2.1) j else if w = 1 then pbV (lineV y.1 y.2.1) y.2.2.1.length j else if w = 2 then pzV (lineV y.1 y.2.1) y.2.2.1.length j else -1
/-- the number that a part tells -/
def nmbV (y : jE) (j : Int) : Int := if psV (lineV y.1 y.2.1) j = 2 then -1 else if digB y.2.2.1 (pbV (lineV y.1 y.2.1) y.2.2.1.length j) (pzV (lineV y.1 y.2.1) y.2.2.1.length j) = true then numOf (seg y.2.2.1 (pbV (lineV y.1 y.2.1) y.2.2.1.length j).toNat (pzV (lineV y.1 y.2.1) y.2.2.1.length j).toNat) else -1
/-- the date that a part tells -/
def datV (y : jE) (j w : Int) : Int := if w = 0 then yearV (twoAt y.2.2.1 (pbV (lineV y.1 y.2.1) y.2.2.1.length j)) y.2.2.2 else if w = 1 then twoAt y.2.2.1 (pbV (lineV y.1 y.2.1) y.2.2.1.length j + 2) else if w = 2 then (if twoAt y.2.2.1 (pbV (lineV y.1 y.2.1) y.2.2.1.length j + 4) = 0 then lastV (yearV (twoAt y.2.2.1 (pbV (lineV y.1 y.2.1) y.2.2.1.length j)) y.2.2.2) (twoAt y.2.2.1 (pbV (lineV y.1 y.2.1) y.2.2.1.length j + 2)) else twoAt y.2.2.1 (pbV (lineV y.1 y.2.1) y.2.2.1.length j + 4)) else -1
theorem most18 : ∀ n : Nat, n < 65 → ∀ j : Nat, j < 4 → LN (8 * (n : Int) + 4 + j) / 1000 = 2 ∨ mostV (LN (8 * (n : Int) + 4 + j)) ≤ 18 := by decide +kernel
theorem most18V {ln j : Int} (hl : ln < 65) (h : psV ln j ≠ 2) : mostV (partV ln j) ≤ 18 := by
  by_cases z : partV ln j = 0
  · rw [z]; decide
  · obtain ⟨h0, h1, h2⟩ := partV_ln z
    have e : partV ln j = LN (8 * (ln.toNat : Int) + 4 + (j.toNat : Int)) := by
      unfold partV cellV
      rw [if_pos ⟨h1, h2⟩, if_neg (by omega)]
      congr 1
      omega
    have := most18 ln.toNat (by omega) j.toNat (by omega)
    unfold psV at h
    rw [e] at h ⊢
    omega
def joinV (s : jP) (fs : List jE) : Int × jP := if 20 < s.2.1.1.length + fs.length then (-1, s) else if allN (togB (s.2.1.1 ++ fs)) (s.2.1.1 ++ fs).length 0 = true then (((s.2.1.1 ++ fs).length : Int), (s.1, (s.2.1.1 ++ fs, s.2.1.2), s.2.2)) else (-1, s)
def setS (f : Nat → List jE) (i : Nat) (es : List jE) : Nat → List jE := fun j => if j = i then es else f j
section U8
variable {d x : Nat} {h : jH} {Q : jO → jH → Prop} {s : jP}
theorem lp_el (H : isLP h x s) {i : Int} (h0 : 0 ≤ i) (h1 : i < s.2.1.1.length) : isEl h (elV h (x + 11) i.toNat) (s.2.1.1.getD i.toNat dE) := H.2.2.2.2.2.2.2.1.2.2.2 i.toNat (by omega)
theorem u_element {i w : Int} (H : isLP h x s) (k0 : (i < 0 ∨ s.2.1.1.length ≤ i) → Q (.inr "java/lang/IndexOutOfBoundsException") (sN h 16 0 6)) (k1 : 0 ≤ i → i < s.2.1.1.length → Q (.inl (some (jI (elemV (s.2.1.1.getD i.toNat dE) w)))) h) : jCall (d + 7) mX10_element [jR x, jI i, jI w] h Q := by
  refine bX10_element (d := d + 6) (fun _ _ _ => ⟨H.1.1, u_elementAt H (fun z => Or.inr ⟨_, rfl, k0 z⟩) (fun z z2 => Or.inl ⟨_, rfl, ?_⟩)⟩)
  have E := lp_el H z z2
  replace k1 := k1 z z2
  unfold elemV at k1
  refine ⟨fun e => ⟨E.1, s4_ai E ⟨_, rfl, ?_⟩⟩, fun e => ⟨E.1, s4_digits E ⟨_, rfl, ?_⟩⟩, fun e => ⟨E.1, s4_value E.sh ⟨_, rfl, E.2.2.1.1, s7_count E.2.2.1 ⟨_, rfl, ?_⟩⟩⟩, fun e => ⟨E.1, s4_parts E ⟨_, rfl, ?_⟩⟩, fun e => ⟨E.1, s4_point E ⟨_, rfl, ?_⟩⟩, fun e => ⟨E.1, s4_isFixed E ⟨_, rfl, fun e2 => ?_, fun e2 => ?_⟩⟩, fun e0 e1 e2 e3 e4 e5 => ?_⟩
  · subst e; exact k1
  · subst e; exact k1
  · subst e; exact k1
  · subst e; exact k1
  · subst e; exact k1
  · subst e; rw [(b2i_eq _).mp e2] at k1; exact k1
  · subst e; rw [(b2i_ne _).mp e2] at k1; exact k1
  · rw [if_neg e0, if_neg e1, if_neg e2, if_neg e3, if_neg e4, if_neg e5] at k1; exact k1
theorem u_letter {i j : Int} (H : isLP h x s) (k0 : (i < 0 ∨ s.2.1.1.length ≤ i) → Q (.inr "java/lang/IndexOutOfBoundsException") (sN h 16 0 6)) (k1 : 0 ≤ i → i < s.2.1.1.length → Q (.inl (some (jI (lAt (s.2.1.1.getD i.toNat dE).2.2.1 j)))) h) : jCall (d + 7) mX10_letter [jR x, jI i, jI j] h Q := by
  refine bX10_letter (d := d + 6) (fun _ _ _ => ⟨H.1.1, u_elementAt H (fun z => Or.inr ⟨_, rfl, k0 z⟩) (fun z z2 => Or.inl ⟨_, rfl, ?_⟩)⟩)
  have E := lp_el H z z2
  exact ⟨E.1, s4_value E.sh ⟨_, rfl, E.2.2.1.1, s7_at E.2.2.1 ⟨_, rfl, k1 z z2⟩⟩⟩
theorem u_part {i j w : Int} (H : isLP h x s) (k0 : (i < 0 ∨ s.2.1.1.length ≤ i) → Q (.inr "java/lang/IndexOutOfBoundsException") (sN h 16 0 6)) (k1 : 0 ≤ i → i < s.2.1.1.length → Q (.inl (some (jI (partW (s.2.1.1.getD i.toNat dE) j w)))) h) : jCall (d + 7) mX10_part [jR x, jI i, jI j, jI w] h Q := by
  refine bX10_part (d := d + 6) (fun _ _ _ _ => ⟨H.1.1, u_elementAt H (fun z => Or.inr ⟨_, rfl, k0 z⟩) (fun z z2 => Or.inl ⟨_, rfl, ?_⟩)⟩)
  have E := lp_el H z z2
  replace k1 := k1 z z2
  unfold partW at k1
  refine ⟨E.1, s4_partBegin E ⟨_, rfl, fun e => ?_, fun e => ?_⟩⟩
  · rw [if_neg e] at k1
    refine ⟨fun e => ⟨E.1, s4_partSort E ⟨_, rfl, ?_⟩⟩, fun e => ⟨E.1, s4_partBegin E ⟨_, rfl, ?_⟩⟩, fun e => ⟨E.1, s4_partBytes E ⟨_, rfl, ?_⟩⟩, fun e0 e1 e2 => ?_⟩
    · subst e; exact k1
    · subst e; exact k1
    · subst e; exact k1
    · rw [if_neg e0, if_neg e1, if_neg e2] at k1; exact k1
  · rw [if_pos e] at k1; exact k1
theorem u_number {i j : Int} (H : isLP h x s) (k0 : (i < 0 ∨ s.2.1.1.length ≤ i) → Q (.inr "java/lang/IndexOutOfBoundsException") (sN h 16 0 6)) (k2 : 0 ≤ i → i < s.2.1.1.length → pbV (lineV (s.2.1.1.getD i.toNat dE).1 (s.2.1.1.getD i.toNat dE).2.1) (s.2.1.1.getD i.toNat dE).2.2.1.length j = -1 → Q (.inr "java/util/NoSuchElementException") (sN h 16 0 6)) (k1 : 0 ≤ i → i < s.2.1.1.length → pbV (lineV (s.2.1.1.getD i.toNat dE).1 (s.2.1.1.getD i.toNat dE).2.1) (s.2.1.1.getD i.toNat dE).2.2.1.length j ≠ -1 → Q (.inl (some (jL (nmbV (s.2.1.1.getD i.toNat dE) j)))) h) : jCall (d + 7) mX10_number [jR x, jI i, jI j] h Q := by
  refine bX10_number (d := d + 1) (fun _ _ _ => ⟨H.1.1, u_elementAt H (fun z => Or.inr ⟨_, rfl, k0 z⟩) (fun z z2 => Or.inl ⟨_, rfl, ?_⟩)⟩)
  have E := lp_el H z z2
  replace k1 := k1 z z2
  replace k2 := k2 z z2
  generalize s.2.1.1.getD i.toNat dE = y at *
  unfold nmbV at k1
  refine ⟨E.1, s4_partBegin E ⟨_, rfl, fun e => ⟨E.1, s4_partSort E ⟨_, rfl, fun e2 => ?_, fun e2 => ?_⟩⟩, fun e => k2 e⟩⟩
  · replace k1 := k1 e
    rw [if_neg e2] at k1
    have lr := lineV_rg y.1 y.2.1
    have m18 := most18V lr.2 e2
    refine ⟨E.1, s4_value E.sh ⟨_, rfl, E.1, s4_partBegin E ⟨_, rfl, E.1, s4_partBytes E ⟨_, rfl, E.2.2.1.1, s7_digitsAt ?_ E.2.2.1 ⟨_, rfl, k1⟩⟩⟩⟩⟩
    unfold pzV
    rw [if_neg e]
    omega
  · replace k1 := k1 e
    rw [if_pos e2] at k1
    exact k1
theorem u_date {i j w : Int} (H : isLP h x s) (hc : 0 ≤ i → i < s.2.1.1.length → 0 ≤ (s.2.1.1.getD i.toNat dE).2.2.2 ∧ (s.2.1.1.getD i.toNat dE).2.2.2 < 10000 ∧ 50 ≤ (s.2.1.1.getD i.toNat dE).2.2.2) (k0 : (i < 0 ∨ s.2.1.1.length ≤ i) → Q (.inr "java/lang/IndexOutOfBoundsException") (sN h 16 0 6)) (k2 : 0 ≤ i → i < s.2.1.1.length → (pbV (lineV (s.2.1.1.getD i.toNat dE).1 (s.2.1.1.getD i.toNat dE).2.1) (s.2.1.1.getD i.toNat dE).2.2.1.length j = -1 ∨ psV (lineV (s.2.1.1.getD i.toNat dE).1 (s.2.1.1.getD i.toNat dE).2.1) j ≠ 4) → Q (.inr "java/util/NoSuchElementException") (sN h 16 0 6)) (k1 : 0 ≤ i → i < s.2.1.1.length → pbV (lineV (s.2.1.1.getD i.toNat dE).1 (s.2.1.1.getD i.toNat dE).2.1) (s.2.1.1.getD i.toNat dE).2.2.1.length j ≠ -1 → psV (lineV (s.2.1.1.getD i.toNat dE).1 (s.2.1.1.getD i.toNat dE).2.1) j = 4 → Q (.inl (some (jI (datV (s.2.1.1.getD i.toNat dE) j w)))) h) : jCall (d + 7) mX10_date [jR x, jI i, jI j, jI w] h Q := by
  refine bX10_date (d := d + 1) (fun _ _ _ _ => ⟨H.1.1, u_elementAt H (fun z => Or.inr ⟨_, rfl, k0 z⟩) (fun z z2 => Or.inl ⟨_, rfl, ?_⟩)⟩)
  have E := lp_el H z z2
  replace k1 := k1 z z2
  replace k2 := k2 z z2
  replace hc := hc z z2
  generalize s.2.1.1.getD i.toNat dE = y at *
  refine ⟨E.1, s4_partBegin E ⟨_, rfl, fun e => k2 (Or.inl e), fun e => ⟨E.1, s4_partSort E ⟨_, rfl, fun e2 => ?_, fun e2 => k2 (Or.inr e2)⟩⟩⟩⟩
  replace k1 := k1 e e2
  have pr := pbV_rg (ln := lineV y.1 y.2.1) (len := y.2.2.1.length) (j := j)
  unfold datV at k1
  generalize hb : pbV (lineV y.1 y.2.1) y.2.2.1.length j = b at *
  have t0 := twoAt_rg (s := y.2.2.1) (f := b)
  have t2 := twoAt_rg (s := y.2.2.1) (f := b + 2)
  have y0 : 0 ≤ yearV (twoAt y.2.2.1 b) y.2.2.2 := by unfold yearV; omega
  refine ⟨E.1, s4_partBegin E ⟨_, rfl, ?_⟩⟩
  rw [hb]
  refine ⟨E.1, s4_value E.sh ⟨_, rfl, E.2.2.1.1, s7_twoDigits (by omega) E.2.2.1 ⟨_, rfl, E.1, s4_clockYear E ⟨_, rfl, s3_yearMeant (by omega) (by omega) hc.1 hc.2.1 ⟨_, rfl, ⟨by omega, by omega⟩, E.2.2.1.1, s7_twoDigits (by omega) E.2.2.1 ⟨_, rfl, ⟨by omega, by omega⟩, E.2.2.1.1, s7_twoDigits (by omega) E.2.2.1 ⟨_, rfl, fun w0 => ?_, fun w1 => ?_, fun w2 => ⟨fun u => ?_, fun u => s3_lastDay y0 ⟨_, rfl, ?_⟩⟩, fun w0 w1 w2 => ?_⟩⟩⟩⟩⟩⟩⟩
  · subst w0; exact k1
  · subst w1; exact k1
  · subst w2
    rw [if_neg (by decide), if_neg (by decide), if_pos rfl, if_neg u] at k1; exact k1
  · subst w2
    rw [if_neg (by decide), if_neg (by decide), if_pos rfl, if_pos u] at k1; exact k1
  · rw [if_neg w0, if_neg w1, if_neg w2] at k1; exact k1
theorem lp_shelf (H : isLP h x s) {i : Nat} (hi : i < 8) {h1 : jH} {es : List jE} (f : jFI (x + 138 + 63 * i) (x + 138 + 63 * i + 63) h h1) (R : isLab h1 (x + 138 + 63 * i) es) : isLP h1 x (s.1, (s.2.1.1, setS s.2.1.2 i es), s.2.2) := by
  obtain ⟨k0, k1, k2, k3, k4, k5, k6, k7, k8, k9, k10, k11, k12, k13, k14⟩ := H.keep f.fr
  refine ⟨k0 (by omega), k1 (by omega), k2 (by omega), k3 (by omega), k4 (by omega), k5 (by omega), k6 (by omega), k7 (by omega), k8 (by omega), k9 (by omega), fun j hj => ?_, k11 (by omega), k12 (by omega), k13 (by omega), k14 (by omega)⟩
  unfold setS
  by_cases e : j = i
  · subst e; simp only [if_pos]; exact R
  · simp only [if_neg e]; exact f.lab (H.2.2.2.2.2.2.2.2.2.2.1 j hj) (by omega)
theorem lp_joined (H : isLP h x s) {h1 : jH} (f : jFI (x + 74) (x + 137) h h1) (R : labSh h1 (x + 74)) : isLP h1 x s := by
  obtain ⟨k0, k1, k2, k3, k4, k5, k6, k7, k8, k9, k10, k11, k12, k13, k14⟩ := H.keep f.fr
  exact ⟨k0 (by omega), k1 (by omega), k2 (by omega), k3 (by omega), k4 (by omega), k5 (by omega), k6 (by omega), k7 (by omega), R, k9 (by omega), k10 (by omega), k11 (by omega), k12 (by omega), k13 (by omega), k14 (by omega)⟩
theorem u_shelve {i : Int} (H : isLP h x s) (k0 : (i < 0 ∨ 8 ≤ i) → Q (.inr "java/lang/IndexOutOfBoundsException") (sN h 16 0 6)) (k1 : 0 ≤ i → i < 8 → ∀ h', jFI (x + 138 + 63 * i.toNat) (x + 138 + 63 * i.toNat + 63) h h' → isLP h' x (s.1, (s.2.1.1, setS s.2.1.2 i.toNat s.2.1.1), s.2.2) → Q (.inl (some (jI s.2.1.1.length))) h') : jCall (d + 7) mX10_shelve [jR x, jI i] h Q := by
  have L := H.2.2.2.2.2.2.2.1
  refine bX10_shelve (d := d + 6) (fun _ _ => ⟨H.1.1, u_shelfAt H (fun z => Or.inr ⟨_, rfl, k0 z⟩) (fun z z2 => Or.inl ⟨_, rfl, H.1.1, ?_⟩)⟩)
  have S := H.2.2.2.2.2.2.2.2.2.2.1 i.toNat (by omega)
  rw [H.1.2.2.2.2.2.2.1]
  refine ⟨S.1.1, s6_copyFrom (d := d + 3) (by omega) S.1 L (fun h1 f1 S1 => ⟨rfl, ?_⟩)⟩
  have H1 := lp_shelf H (by omega) f1 S1
  have L1 := H1.2.2.2.2.2.2.2.1
  refine ⟨H1.1.1, ?_⟩
  rw [H1.1.2.2.2.2.2.2.1]
  exact ⟨L1.1.1, s6_count L1 ⟨_, rfl, k1 z z2 h1 f1 H1⟩⟩
theorem u_fetch {i : Int} (H : isLP h x s) (k0 : (i < 0 ∨ 8 ≤ i) → Q (.inr "java/lang/IndexOutOfBoundsException") (sN h 16 0 6)) (k1 : 0 ≤ i → i < 8 → ∀ h', jFr (x + 11) (x + 74) h h' → isLP h' x (s.1, (s.2.1.2 i.toNat, s.2.1.2), s.2.2) → Q (.inl (some (jI (s.2.1.2 i.toNat).length))) h') : jCall (d + 7) mX10_fetch [jR x, jI i] h Q := by
  have L := H.2.2.2.2.2.2.2.1
  refine bX10_fetch (d := d + 6) (fun _ _ => ⟨H.1.1, u_shelfAt H (fun z => Or.inr ⟨_, rfl, k0 z⟩) (fun z z2 => Or.inl ⟨_, rfl, ?_⟩)⟩)
  have S := H.2.2.2.2.2.2.2.2.2.2.1 i.toNat (by omega)
  rw [H.1.2.2.2.2.2.2.1]
  refine ⟨L.1.1, s6_copyFrom (d := d + 3) (by omega) L.1 S (fun h1 f1 S1 => ⟨rfl, ?_⟩)⟩
  have H1 := lp_list H f1.fr S1
  have L1 := H1.2.2.2.2.2.2.2.1
  refine ⟨H1.1.1, ?_⟩
  rw [H1.1.2.2.2.2.2.2.1]
  exact ⟨L1.1.1, s6_count L1 ⟨_, rfl, k1 z z2 h1 f1.fr H1⟩⟩
theorem u_sameS {i : Int} (H : isLP h x s) (k0 : (i < 0 ∨ 8 ≤ i) → Q (.inr "java/lang/IndexOutOfBoundsException") (sN h 16 0 6)) (k1 : 0 ≤ i → i < 8 → Q (.inl (some (jI (b2i (decide (s.2.1.1.map keyE = (s.2.1.2 i.toNat).map keyE)))))) h) : jCall (d + 7) mX10_same [jR x, jI i] h Q := by
  have L := H.2.2.2.2.2.2.2.1
  refine bX10_same (d := d + 6) (fun _ _ => ⟨H.1.1, u_shelfAt H (fun z => Or.inr ⟨_, rfl, k0 z⟩) (fun z z2 => Or.inl ⟨_, rfl, ?_⟩)⟩)
  have S := H.2.2.2.2.2.2.2.2.2.2.1 i.toNat (by omega)
  rw [H.1.2.2.2.2.2.2.1]
  exact ⟨L.1.1, s6_isSameAs (d := d + 4) L S ⟨_, rfl, b2i_rg _, k1 z z2⟩⟩
theorem u_join {i : Int} (H : isLP h x s) (k0 : (i < 0 ∨ 8 ≤ i) → Q (.inr "java/lang/IndexOutOfBoundsException") (sN h 16 0 6)) (k1 : 0 ≤ i → i < 8 → ∀ h', jFr (x + 11) (x + 137) h h' → isLP h' x (joinV s (s.2.1.2 i.toNat)).2 → Q (.inl (some (jI (joinV s (s.2.1.2 i.toNat)).1))) h') : jCall (d + 7) mX10_join [jR x, jI i] h Q := by
  have L := H.2.2.2.2.2.2.2.1
  refine bX10_join (d := d + 6) (fun _ _ => ⟨H.1.1, u_shelfAt H (fun z => Or.inr ⟨_, rfl, k0 z⟩) (fun z z2 => Or.inl ⟨_, rfl, H.1.1, ?_⟩)⟩)
  have S := H.2.2.2.2.2.2.2.2.2.2.1 i.toNat (by omega)
  replace k1 := k1 z z2
  unfold joinV at k1
  rw [H.1.2.2.2.2.2.2.1, H.1.2.2.2.2.2.2.2.1]
  refine ⟨H.2.2.2.2.2.2.2.2.1.1, s6_copyFrom (d := d + 3) (by omega) H.2.2.2.2.2.2.2.2.1 L (fun h1 f1 J1 => ⟨rfl, ?_⟩)⟩
  have H1 := lp_joined H f1 J1.1
  have S1 := H1.2.2.2.2.2.2.2.2.2.2.1 i.toNat (by omega)
  refine ⟨H1.1.1, ?_⟩
  rw [H1.1.2.2.2.2.2.2.2.1]
  refine ⟨J1.1.1, s6_append (d := d + 3) (by omega) J1 S1 (fun u => ⟨_, rfl, fun _ => ?_, fun w => absurd rfl w⟩) (fun u h2 f2 J2 => ⟨_, rfl, fun w => absurd w (by decide), fun _ => ?_⟩)⟩
  · rw [if_pos u] at k1
    exact k1 h1 (f1.fr.mono (by omega) (by omega)) H1
  rw [if_neg (by omega)] at k1
  have H2 := lp_joined H1 f2 J2.1
  refine ⟨H2.1.1, ?_⟩
  rw [H2.1.2.2.2.2.2.2.2.1]
  have f02 : jFr (x + 11) (x + 137) h h2 := (f1.trans f2).fr.mono (by omega) (by omega)
  refine ⟨J2.1.1, s6_goesTogether (d := d + 2) J2 ⟨_, rfl, fun w => ?_, fun w => ?_⟩⟩
  · have w' := (b2i_ne _).mp w
    rw [if_pos w'] at k1
    have L2 := H2.2.2.2.2.2.2.2.1
    refine ⟨H2.1.1, ?_⟩
    rw [H2.1.2.2.2.2.2.2.1, H2.1.2.2.2.2.2.2.2.1]
    refine ⟨L2.1.1, s6_copyFrom (d := d + 3) (by omega) L2.1 J2 (fun h3 f3 L3 => ⟨rfl, ?_⟩)⟩
    have H3 := lp_list H2 f3.fr L3
    refine ⟨H3.1.1, ?_⟩
    rw [H3.1.2.2.2.2.2.2.1]
    exact ⟨L3.1.1, s6_count L3 ⟨_, rfl, k1 h3 (f02.trans (f3.fr.mono (by omega) (by omega))) H3⟩⟩
  · have w' := (b2i_eq _).mp w
    rw [if_neg (by rw [w']; decide)] at k1
    exact k1 h2 f02 H2
end U8
