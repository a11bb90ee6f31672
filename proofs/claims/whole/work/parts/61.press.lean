/-! THE PRESS: its state -/
/-- (tape, out, strip, symbol), (list, shelves), (clock, fault's sort, place), (characters scanned, bytes, from the right) -/
abbrev jP : Type := (List Int × List Int × List Int × List Int) × (List jE × (Nat → List jE)) × (Int × Int × Int) × (Int × Int × Int)
def lpX (h : jH) (x : Nat) : Prop := hK h x = 8 ∧ hR h 700 x = x + 1 ∧ hR h 701 x = x + 3 ∧ hR h 702 x = x + 5 ∧ hR h 703 x = x + 7 ∧ hR h 704 x = x + 9 ∧ hR h 705 x = x + 11 ∧ hR h 706 x = x + 74 ∧ hR h 707 x = x + 137 ∧ hR h 708 x = x + 642 ∧ hR h 709 x = x + 710 ∧ hR h 710 x = x + 715 ∧ hR h 711 x = x + 717
def lpN (h : jH) (x : Nat) (c : Int × Int × Int) (n : Int × Int × Int) : Prop := hI h 712 x = c.1 ∧ hI h 713 x = c.2.1 ∧ hI h 714 x = c.2.2 ∧ hI h 715 x = n.1 ∧ hI h 716 x = n.2.1 ∧ hI h 717 x = n.2.2
def lpA (h : jH) (x : Nat) : Prop := hK h (x + 137) = 15 ∧ hN h (x + 137) = 8 ∧ ∀ i : Nat, i < 8 → hQ h (x + 137) (i : Int) = x + 138 + 63 * i
def lpT (h : jH) (x : Nat) : Prop := (∃ q br clk p, isTR h (x + 642) q br clk p) ∧ trSh h (x + 642)
def lpB (h : jH) (x : Nat) : Prop := ∃ q lo wi fr cs ps, isBR h (x + 717) (x + 715) q lo wi fr ∧ isRow h (x + 718) 100 cs ∧ isRow h (x + 720) 100 ps
def isLP (h : jH) (x : Nat) (s : jP) : Prop :=
  lpX h x ∧ lpN h x s.2.2.1 s.2.2.2 ∧ isRow h (x + 1) 600 s.1.1 ∧ isRow h (x + 3) 3720 s.1.2.1 ∧ isRow h (x + 5) 2000 s.1.2.2.1 ∧ (∃ l, isRow h (x + 7) 1900 l) ∧ isRow h (x + 9) 100 s.1.2.2.2 ∧ isLab h (x + 11) s.2.1.1 ∧ labSh h (x + 74) ∧ lpA h x ∧ (∀ i, i < 8 → isLab h (x + 138 + 63 * i) (s.2.1.2 i)) ∧ lpT h x ∧ (∃ q, isEnc h (x + 710) q) ∧ isBars h (x + 715) ∧ lpB h x
theorem jFr.tr {a b : Nat} {h h1 : jH} (p : jFr a b h h1) {T q : Nat} {br : Bool} {clk pl : Int} (H : isTR h T q br clk pl) (hd : T + 1 ≤ a ∨ b ≤ T) : isTR h1 T q br clk pl := by
  obtain ⟨p3, p4, p5, p6, p7⟩ := p
  obtain ⟨q1, q2, q3, q4, q5, q6, q7⟩ := H
  have w := fun f => ((p7 T (by omega)).1 f).1
  have v := fun f => ((p7 T (by omega)).1 f).2
  exact ⟨by rw [p3]; exact q1, by rw [v]; exact q2, by rw [v]; exact q3, by rw [v]; exact q4, by rw [w]; exact q5, by rw [w]; exact q6, by rw [w]; exact q7⟩
theorem jFr.lpX {a b x : Nat} {h h1 : jH} (p : jFr a b h h1) (H : lpX h x) (hd : x + 1 ≤ a ∨ b ≤ x) : lpX h1 x := by
  obtain ⟨p3, p4, p5, p6, p7⟩ := p
  obtain ⟨q0, q1, q2, q3, q4, q5, q6, q7, q8, q9, q10, q11, q12⟩ := H
  have v := fun f => ((p7 x (by omega)).1 f).2
  exact ⟨by rw [p3]; exact q0, by rw [v]; exact q1, by rw [v]; exact q2, by rw [v]; exact q3, by rw [v]; exact q4, by rw [v]; exact q5, by rw [v]; exact q6, by rw [v]; exact q7, by rw [v]; exact q8, by rw [v]; exact q9, by rw [v]; exact q10, by rw [v]; exact q11, by rw [v]; exact q12⟩
theorem jFI.lpX {a b x : Nat} {h h1 : jH} (p : jFI a b h h1) (H : lpX h x) : lpX h1 x := by
  obtain ⟨p1, p2, p3, p4, p5, p6, p7⟩ := p
  unfold Jvm.Pilot.CLabelPressLaw_law_r4576_547a55.lpX at *
  rw [p1, p3]
  exact H
theorem jFr.lpN {a b x : Nat} {h h1 : jH} {c n : Int × Int × Int} (p : jFr a b h h1) (H : lpN h x c n) (hd : x + 1 ≤ a ∨ b ≤ x) : lpN h1 x c n := by
  obtain ⟨q1, q2, q3, q4, q5, q6⟩ := H
  have w := fun f => ((p.2.2.2.2 x (by omega)).1 f).1
  exact ⟨by rw [w]; exact q1, by rw [w]; exact q2, by rw [w]; exact q3, by rw [w]; exact q4, by rw [w]; exact q5, by rw [w]; exact q6⟩
/-- what a change between a and b leaves of a press -/
theorem isLP.keep {h h1 : jH} {x a b : Nat} {s : jP} (H : isLP h x s) (f : jFr a b h h1) :
    (x + 1 ≤ a ∨ b ≤ x → lpX h1 x) ∧ (x + 1 ≤ a ∨ b ≤ x → lpN h1 x s.2.2.1 s.2.2.2) ∧ (x + 3 ≤ a ∨ b ≤ x + 1 → isRow h1 (x + 1) 600 s.1.1) ∧ (x + 5 ≤ a ∨ b ≤ x + 3 → isRow h1 (x + 3) 3720 s.1.2.1) ∧ (x + 7 ≤ a ∨ b ≤ x + 5 → isRow h1 (x + 5) 2000 s.1.2.2.1) ∧ (x + 9 ≤ a ∨ b ≤ x + 7 → ∃ l, isRow h1 (x + 7) 1900 l) ∧ (x + 11 ≤ a ∨ b ≤ x + 9 → isRow h1 (x + 9) 100 s.1.2.2.2) ∧ (x + 74 ≤ a ∨ b ≤ x + 11 → isLab h1 (x + 11) s.2.1.1) ∧ (x + 137 ≤ a ∨ b ≤ x + 74 → labSh h1 (x + 74)) ∧ (x + 138 ≤ a ∨ b ≤ x + 137 → lpA h1 x) ∧ ((x + 642 ≤ a ∨ b ≤ x + 138) → ∀ i, i < 8 → isLab h1 (x + 138 + 63 * i) (s.2.1.2 i)) ∧ (x + 710 ≤ a ∨ b ≤ x + 642 → lpT h1 x) ∧ (x + 715 ≤ a ∨ b ≤ x + 710 → ∃ q, isEnc h1 (x + 710) q) ∧ (x + 717 ≤ a ∨ b ≤ x + 715 → isBars h1 (x + 715)) ∧ (x + 724 ≤ a ∨ b ≤ x + 717 → lpB h1 x) := by
  obtain ⟨q0, q1, q2, q3, q4, ⟨l, q5⟩, q6, q7, q8, q9, q10, q11, ⟨q, q12⟩, q13, q14⟩ := H
  refine ⟨fun z => f.lpX q0 z, fun z => f.lpN q1 z, fun z => f.row q2 (by omega), fun z => f.row q3 (by omega), fun z => f.row q4 (by omega), fun z => ⟨l, f.row q5 (by omega)⟩, fun z => f.row q6 (by omega), fun z => f.lab q7 (by omega), fun z => f.labSh q8 (by omega), fun z => ?_, fun z i hi => f.lab (q10 i hi) (by omega), fun z => ?_, fun z => ⟨q, f.enc q12 (by omega)⟩, fun z => f.bars q13 (by omega), fun z => ?_⟩
  · exact ⟨by rw [f.1]; exact q9.1, by rw [f.2.1]; exact q9.2.1, fun i hi => by rw [((f.2.2.2.2 (x + 137) (by omega)).2 i).2]; exact q9.2.2 i hi⟩
  · obtain ⟨⟨u1, u2, u3, u4, u5⟩, u6, ps, u7⟩ := q11
    exact ⟨⟨u1, u2, u3, u4, f.tr u5 (by omega)⟩, f.labSh u6 (by omega), ps, f.row u7 (by omega)⟩
  · obtain ⟨u1, u2, u3, u4, u5, u6, u7, u8, u9⟩ := q14
    exact ⟨u1, u2, u3, u4, u5, u6, f.br u7 (by omega), f.row u8 (by omega), f.row u9 (by omega)⟩
/-- four bytes of a number -/
def by4 (a : Int) : List Int := [a / 2 ^ 24 % 256, a / 2 ^ 16 % 256, a / 2 ^ 8 % 256, a / 2 ^ 0 % 256]
section U1
variable {d x : Nat} {h : jH} {Q : jO → jH → Prop} {s : jP}
theorem lp_tape (H : isLP h x s) {h1 : jH} {l : List Int} (f : jFI (x + 1) (x + 3) h h1) (R : isRow h1 (x + 1) 600 l) : isLP h1 x ((l, s.1.2), s.2) := by
  obtain ⟨k0, k1, k2, k3, k4, k5, k6, k7, k8, k9, k10, k11, k12, k13, k14⟩ := H.keep f.fr
  exact ⟨k0 (by omega), k1 (by omega), R, k3 (by omega), k4 (by omega), k5 (by omega), k6 (by omega), k7 (by omega), k8 (by omega), k9 (by omega), k10 (by omega), k11 (by omega), k12 (by omega), k13 (by omega), k14 (by omega)⟩
theorem lp_strip (H : isLP h x s) {h1 : jH} {l : List Int} (f : jFI (x + 5) (x + 7) h h1) (R : isRow h1 (x + 5) 2000 l) : isLP h1 x ((s.1.1, s.1.2.1, l, s.1.2.2.2), s.2) := by
  obtain ⟨k0, k1, k2, k3, k4, k5, k6, k7, k8, k9, k10, k11, k12, k13, k14⟩ := H.keep f.fr
  exact ⟨k0 (by omega), k1 (by omega), k2 (by omega), k3 (by omega), R, k5 (by omega), k6 (by omega), k7 (by omega), k8 (by omega), k9 (by omega), k10 (by omega), k11 (by omega), k12 (by omega), k13 (by omega), k14 (by omega)⟩
theorem u_putBytes {a : Int} (H : isLP h x s) (hl : s.1.1.length + 4 ≤ 600) (k : ∀ h', jFI (x + 1) (x + 3) h h' → isLP h' x ((s.1.1 ++ by4 a, s.1.2), s.2) → Q (.inl none) h') : jCall (d + 1) mX10_putBytes [jR x, jI a] h Q := by
  have step : ∀ (n : Nat) (h : jH) (l : List Int), n < 32 → l.length < 600 → isLP h x ((l, s.1.2), s.2) → (∀ h', jFI (x + 1) (x + 3) h h' → isLP h' x ((l ++ [a / 2 ^ n % 256], s.1.2), s.2) → jWp (d + 1) mX10_putBytes 3 [(0, jR x), (1, jI a), (2, jI ((n : Int) + (-8)))] [] h' Q) → jWp (d + 1) mX10_putBytes 3 [(0, jR x), (1, jI a), (2, jI n)] [] h Q := fun n h l hn hl H k => by
    refine bX10_putBytes_3 (fun _ _ _ => ⟨fun z => by omega, fun z => ⟨H.1.1, by omega, by omega, ?_⟩⟩)
    rw [H.1.2.1, Int.toNat_natCast]
    refine ⟨H.2.2.1.1, s7_put H.2.2.1 (fun h' f R => ⟨rfl, ⟨by omega, by omega⟩, k h' f ?_⟩)⟩
    rw [lput_app (show l.length < 600 from hl)] at R
    exact lp_tape H f R
  refine bX10_putBytes (fun _ _ => step 24 h s.1.1 (by decide) (by omega) H (fun h1 f1 H1 => ?_))
  refine step 16 h1 _ (by decide) (by simp; omega) H1 (fun h2 f2 H2 => ?_)
  refine step 8 h2 _ (by decide) (by simp; omega) H2 (fun h3 f3 H3 => ?_)
  refine step 0 h3 _ (by decide) (by simp; omega) H3 (fun h4 f4 H4 => ?_)
  refine bX10_putBytes_3 (fun _ _ _ => ⟨fun z => k h4 (((f1.trans f2).trans f3).trans f4) ?_, fun z => absurd (by decide) z⟩)
  simpa [by4] using H4
def feedV (s : jP) (a b c d e : Int) : Int × jP := if 600 < s.1.1.length + 20 then (-1, s) else ((s.1.1.length : Int) + 20, ((s.1.1 ++ (by4 a ++ (by4 b ++ (by4 c ++ (by4 d ++ by4 e)))), s.1.2), s.2))
theorem u_feed {a b c e f : Int} (H : isLP h x s) (k : ∀ h', jFI (x + 1) (x + 3) h h' → isLP h' x (feedV s a b c e f).2 → Q (.inl (some (jI (feedV s a b c e f).1))) h') : jCall (d + 2) mX10_feed [jR x, jI a, jI b, jI c, jI e, jI f] h Q := by
  have tl := H.2.2.1.2.2.2.2.2.1
  unfold feedV at k
  refine bX10_feed (fun _ _ _ _ _ _ => ⟨H.1.1, ?_⟩)
  rw [H.1.2.1]
  refine ⟨H.2.2.1.1, s7_count H.2.2.1 ⟨_, rfl, ⟨by omega, by omega⟩, fun z => ⟨H.1.1, ?_⟩, fun z => ?_⟩⟩
  · rw [if_neg (by omega)] at k
    refine u_putBytes H (by omega) (fun h1 f1 H1 => ⟨rfl, H1.1.1, u_putBytes H1 (by simp [by4]; omega) (fun h2 f2 H2 => ⟨rfl, H2.1.1, u_putBytes H2 (by simp [by4]; omega) (fun h3 f3 H3 => ⟨rfl, H3.1.1, u_putBytes H3 (by simp [by4]; omega) (fun h4 f4 H4 => ⟨rfl, H4.1.1, u_putBytes H4 (by simp [by4]; omega) (fun h5 f5 H5 => ⟨rfl, H5.1.1, ?_⟩)⟩)⟩)⟩)⟩)
    rw [H5.1.2.1]
    refine ⟨H5.2.2.1.1, s7_count H5.2.2.1 ⟨_, rfl, ?_⟩⟩
    have := k h5 ((((f1.trans f2).trans f3).trans f4).trans f5) (by simpa using H5)
    simpa [by4, Int.add_assoc] using this
  · rw [if_pos (by omega)] at k
    exact k h .rfl H
end U1
