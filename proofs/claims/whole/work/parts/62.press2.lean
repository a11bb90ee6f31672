/-! THE PRESS: small calls -/
section U2
variable {d x : Nat} {h : jH} {Q : jO → jH → Prop} {s : jP}
theorem lp_out (H : isLP h x s) {h1 : jH} {l : List Int} (f : jFI (x + 3) (x + 5) h h1) (R : isRow h1 (x + 3) 3720 l) : isLP h1 x ((s.1.1, l, s.1.2.2), s.2) := by
  obtain ⟨k0, k1, k2, k3, k4, k5, k6, k7, k8, k9, k10, k11, k12, k13, k14⟩ := H.keep f.fr
  exact ⟨k0 (by omega), k1 (by omega), k2 (by omega), R, k4 (by omega), k5 (by omega), k6 (by omega), k7 (by omega), k8 (by omega), k9 (by omega), k10 (by omega), k11 (by omega), k12 (by omega), k13 (by omega), k14 (by omega)⟩
theorem lp_list (H : isLP h x s) {h1 : jH} {es : List jE} (f : jFr (x + 11) (x + 74) h h1) (R : isLab h1 (x + 11) es) : isLP h1 x (s.1, (es, s.2.1.2), s.2.2) := by
  obtain ⟨k0, k1, k2, k3, k4, k5, k6, k7, k8, k9, k10, k11, k12, k13, k14⟩ := H.keep f
  exact ⟨k0 (by omega), k1 (by omega), k2 (by omega), k3 (by omega), k4 (by omega), k5 (by omega), k6 (by omega), R, k8 (by omega), k9 (by omega), k10 (by omega), k11 (by omega), k12 (by omega), k13 (by omega), k14 (by omega)⟩
theorem lp_nums (H : isLP h x s) {h1 : jH} {c n : Int × Int × Int} (f : jFI x (x + 1) h h1) (R : lpN h1 x c n) : isLP h1 x (s.1, s.2.1, c, n) := by
  obtain ⟨k0, k1, k2, k3, k4, k5, k6, k7, k8, k9, k10, k11, k12, k13, k14⟩ := H.keep f.fr
  exact ⟨f.lpX H.1, R, k2 (by omega), k3 (by omega), k4 (by omega), k5 (by omega), k6 (by omega), k7 (by omega), k8 (by omega), k9 (by omega), k10 (by omega), k11 (by omega), k12 (by omega), k13 (by omega), k14 (by omega)⟩
def endV (s : jP) (n : Int) : Int × jP := if 0 ≤ n ∧ n ≤ s.1.1.length then (1, ((s.1.1.take n.toNat, s.1.2), s.2)) else (0, s)
theorem u_end {n : Int} (H : isLP h x s) (k : ∀ h', jFI (x + 1) (x + 3) h h' → isLP h' x (endV s n).2 → Q (.inl (some (jI (endV s n).1))) h') : jCall (d + 1) mX10_end [jR x, jI n] h Q := by
  unfold endV at k
  refine bX10_end (fun _ _ => ⟨H.1.1, ?_⟩)
  rw [H.1.2.1]
  refine ⟨H.2.2.1.1, s7_shorten H.2.2.1 (fun z => ⟨_, rfl, by decide, ?_⟩) (fun z z2 h' f R => ⟨_, rfl, by decide, ?_⟩)⟩
  · rw [if_neg (by omega)] at k
    exact k h .rfl H
  · rw [if_pos ⟨z, z2⟩] at k
    exact k h' f (lp_tape H f R)
def cutV (s : jP) (n : Int) : Int × jP := if 0 ≤ n ∧ n ≤ s.1.2.2.1.length then (1, ((s.1.1, s.1.2.1, s.1.2.2.1.take n.toNat, s.1.2.2.2), s.2)) else (0, s)
theorem u_cut {n : Int} (H : isLP h x s) (k : ∀ h', jFI (x + 5) (x + 7) h h' → isLP h' x (cutV s n).2 → Q (.inl (some (jI (cutV s n).1))) h') : jCall (d + 1) mX10_cut [jR x, jI n] h Q := by
  unfold cutV at k
  refine bX10_cut (fun _ _ => ⟨H.1.1, ?_⟩)
  rw [H.1.2.2.2.1]
  refine ⟨H.2.2.2.2.1.1, s7_shorten H.2.2.2.2.1 (fun z => ⟨_, rfl, by decide, ?_⟩) (fun z z2 h' f R => ⟨_, rfl, by decide, ?_⟩)⟩
  · rw [if_neg (by omega)] at k
    exact k h .rfl H
  · rw [if_pos ⟨z, z2⟩] at k
    exact k h' f (lp_strip H f R)
theorem u_take (H : isLP h x s) (k : ∀ h', jFI (x + 1) (x + 3) h h' → isLP h' x ((s.1.2.1.take 600, s.1.2), s.2) → Q (.inl (some (jI (s.1.2.1.take 600).length))) h') : jCall (d + 2) mX10_take [jR x] h Q := by
  refine bX10_take (fun _ => ⟨H.1.1, ?_⟩)
  rw [H.1.2.1, H.1.2.2.1]
  refine ⟨H.2.2.1.1, s7_copyFrom H.2.2.1 H.2.2.2.1 (by omega) (fun h' f R => ⟨rfl, ?_⟩)⟩
  have H1 := lp_tape H f R
  refine ⟨H1.1.1, ?_⟩
  rw [H1.1.2.1]
  exact ⟨R.1, s7_count R ⟨_, rfl, k h' f H1⟩⟩
def clockV (s : jP) (y : Int) : Int × jP := if 1950 ≤ y ∧ y ≤ 2200 then (1, (s.1, s.2.1, (y, s.2.2.1.2), s.2.2.2)) else (0, s)
theorem u_clock {y : Int} (H : isLP h x s) (k : ∀ h', jFI x (x + 1) h h' → isLP h' x (clockV s y).2 → Q (.inl (some (jI (clockV s y).1))) h') : jCall d mX10_clock [jR x, jI y] h Q := by
  unfold clockV at k
  refine bX10_clock (fun _ _ => ⟨fun z => ?_, fun z => ⟨fun z2 => ⟨H.1.1, ?_⟩, fun z2 => ?_⟩⟩)
  · rw [if_neg (by omega)] at k
    exact k h .rfl H
  · rw [if_pos (by omega)] at k
    obtain ⟨n1, n2, n3, n4, n5, n6⟩ := H.2.1
    refine k _ (jFI_I h 712 x y) (lp_nums H (jFI_I h 712 x y) ⟨by rw [hI_sI, if_pos ⟨.refl _, .refl _⟩], ?_, ?_, ?_, ?_, ?_⟩)
    · rw [hI_sI, if_neg (by omega)]; exact n2
    · rw [hI_sI, if_neg (by omega)]; exact n3
    · rw [hI_sI, if_neg (by omega)]; exact n4
    · rw [hI_sI, if_neg (by omega)]; exact n5
    · rw [hI_sI, if_neg (by omega)]; exact n6
  · rw [if_neg (by omega)] at k
    exact k h .rfl H
theorem u_fault {w : Int} (H : isLP h x s) (k : Q (.inl (some (jI (if w = 0 then s.2.2.1.2.1 else if w = 1 then s.2.2.1.2.2 else -1)))) h) : jCall d mX10_fault [jR x, jI w] h Q := by
  obtain ⟨n1, n2, n3, n4, n5, n6⟩ := H.2.1
  refine bX10_fault (fun _ _ => ⟨fun z => ⟨H.1.1, fun _ => ?_⟩, fun z => ⟨H.1.1, fun _ => ?_⟩, fun z z2 => ?_⟩)
  · rw [if_pos z] at k; rw [n2]; exact k
  · rw [if_neg (by omega), if_pos z] at k; rw [n3]; exact k
  · rw [if_neg z, if_neg z2] at k; exact k
theorem u_scanned {w : Int} (hr : 0 ≤ s.2.2.2.2.2 ∧ s.2.2.2.2.2 ≤ 1) (H : isLP h x s) (k : Q (.inl (some (jI (if w = 0 then s.2.2.2.1 else if w = 1 then s.2.2.2.2.1 else if w = 2 then s.2.2.2.2.2 else -1)))) h) : jCall d mX10_scanned [jR x, jI w] h Q := by
  obtain ⟨n1, n2, n3, n4, n5, n6⟩ := H.2.1
  refine bX10_scanned (fun _ _ => ⟨fun z => ⟨H.1.1, fun _ => ?_⟩, fun z => ⟨H.1.1, fun _ => ?_⟩, fun z => ⟨H.1.1, fun _ => ⟨fun y => ?_, fun y => ?_⟩⟩, fun z z2 z3 => ?_⟩)
  · rw [if_pos z] at k; rw [n4]; exact k
  · rw [if_neg (by omega), if_pos z] at k; rw [n5]; exact k
  · rw [if_neg (by omega), if_neg (by omega), if_pos z] at k
    rw [n6] at y
    rw [y] at k
    exact k
  · rw [if_neg (by omega), if_neg (by omega), if_pos z] at k
    rw [n6] at y
    rw [show s.2.2.2.2.2 = 1 by omega] at k
    exact k
  · rw [if_neg z, if_neg z2, if_neg z3] at k; exact k
theorem u_out {i : Int} (H : isLP h x s) (k : Q (.inl (some (jI (lAt s.1.2.1 i)))) h) : jCall (d + 1) mX10_out [jR x, jI i] h Q :=
  bX10_out (fun _ _ => ⟨H.1.1, by rw [H.1.2.2.1]; exact ⟨H.2.2.2.1.1, s7_at H.2.2.2.1 ⟨_, rfl, k⟩⟩⟩)
theorem u_character {i : Int} (H : isLP h x s) (k : Q (.inl (some (jI (lAt s.1.2.2.2 i)))) h) : jCall (d + 1) mX10_character [jR x, jI i] h Q :=
  bX10_character (fun _ _ => ⟨H.1.1, by rw [H.1.2.2.2.2.2.1]; exact ⟨H.2.2.2.2.2.2.1.1, s7_at H.2.2.2.2.2.2.1 ⟨_, rfl, k⟩⟩⟩)
theorem u_module {i : Int} (H : isLP h x s) (k : Q (.inl (some (jI (lAt s.1.2.2.1 i)))) h) : jCall (d + 1) mX10_module [jR x, jI i] h Q :=
  bX10_module (fun _ _ => ⟨H.1.1, by rw [H.1.2.2.2.1]; exact ⟨H.2.2.2.2.1.1, s7_at H.2.2.2.2.1 ⟨_, rfl, k⟩⟩⟩)
theorem u_find {a dg : Int} (H : isLP h x s) (k : Q (.inl (some (jI (idxE (fun y => decide (y.1 = a ∧ y.2.1 = dg)) s.2.1.1 0)))) h) : jCall (d + 2) mX10_find [jR x, jI a, jI dg] h Q :=
  bX10_find (fun _ _ _ => ⟨H.1.1, by rw [H.1.2.2.2.2.2.2.1]; exact ⟨H.2.2.2.2.2.2.2.1.1.1, s6_placeOf H.2.2.2.2.2.2.2.1 ⟨_, rfl, k⟩⟩⟩)
theorem u_list {w : Int} (H : isLP h x s) (k : Q (.inl (some (jI (if w = 0 then (s.2.1.1.length : Int) else if w = 1 then sumN (byV s.2.1.1 0) s.2.1.1.length 0 else if w = 2 then syF s.2.1.1 21 0 0 else -1)))) h) : jCall (d + 5) mX10_list [jR x, jI w] h Q := by
  have L := H.2.2.2.2.2.2.2.1
  refine bX10_list (fun _ _ => ⟨fun z => ⟨H.1.1, ?_⟩, fun z => ⟨H.1.1, ?_⟩, fun z => ⟨H.1.1, ?_⟩, fun z z2 z3 => ?_⟩)
  · rw [if_pos z] at k
    rw [H.1.2.2.2.2.2.2.1]
    exact ⟨L.1.1, s6_count L ⟨_, rfl, k⟩⟩
  · rw [if_neg (by omega), if_pos z] at k
    rw [H.1.2.2.2.2.2.2.1]
    exact ⟨L.1.1, s6_stringBytes (d := d + 1) L ⟨_, rfl, k⟩⟩
  · rw [if_neg (by omega), if_neg (by omega), if_pos z] at k
    rw [H.1.2.2.2.2.2.2.1]
    exact ⟨L.1.1, s6_symbols L ⟨_, rfl, k⟩⟩
  · rw [if_neg z, if_neg z2, if_neg z3] at k
    exact k
theorem u_arrange (H : isLP h x s) (k : ∀ h', jFr (x + 11) (x + 74) h h' → isLP h' x (s.1, (arrE s.2.1.1, s.2.1.2), s.2.2) → Q (.inl (some (jI (arrM s.2.1.1)))) h') : jCall (d + 3) mX10_arrange [jR x] h Q :=
  bX10_arrange (fun _ => ⟨H.1.1, by
    rw [H.1.2.2.2.2.2.2.1]
    exact ⟨H.2.2.2.2.2.2.2.1.1.1, s6_fixedAhead H.2.2.2.2.2.2.2.1 (fun h' f L => ⟨_, rfl, k h' f (lp_list H f L)⟩)⟩⟩)
def writeV (es : List jE) (br : Bool) : List Int := if br = true then brF es else strF es 0 es.length 0
theorem u_write {br : Bool} (H : isLP h x s) (k : ∀ h', jFI (x + 3) (x + 5) h h' → isLP h' x ((s.1.1, writeV s.2.1.1 br, s.1.2.2), s.2) → Q (.inl (some (jI (writeV s.2.1.1 br).length))) h') : jCall (d + 4) mX10_write [jR x, jI (b2i br)] h Q := by
  have l20 := H.2.2.2.2.2.2.2.1.2.2.1
  refine bX10_write (fun _ _ => ⟨H.1.1, ?_⟩)
  rw [H.1.2.2.1]
  refine ⟨H.2.2.2.1.1, s7_clear H.2.2.2.1 (fun h1 f1 R1 => ⟨rfl, ?_⟩)⟩
  have H1 := lp_out H f1 R1
  have L1 := H1.2.2.2.2.2.2.2.1
  have fin : ∀ (h2 : jH) (l : List Int), l = writeV s.2.1.1 br → jFI (x + 3) (x + 5) h1 h2 → isRow h2 (x + 3) 3720 l → hK h2 x = 8 ∧ hK h2 (hR h2 701 x) = 6 ∧ jCall (d + 3) mX7_count [jR (hR h2 701 x)] h2 (fun o h48 => ∃ v48, o = .inl (some (jI v48)) ∧ Q (.inl (some (jI v48))) h48) := fun h2 l hl f2 R2 => by
    have H2 := lp_out H1 f2 R2
    rw [H2.1.2.2.1]
    subst hl
    exact ⟨H2.1.1, R2.1, s7_count R2 ⟨_, rfl, k h2 (f1.trans f2) H2⟩⟩
  refine ⟨fun z => ⟨H1.1.1, ?_⟩, fun z => ⟨H1.1.1, ?_⟩⟩
  · have e : br = false := (b2i_eq _).mp z
    rw [H1.1.2.2.2.2.2.2.1, H1.1.2.2.1]
    refine ⟨L1.1.1, s6_count L1 ⟨_, rfl, L1.1.1, s6_writeString (f := 0) (t := s.2.1.1.length) (by omega) (by exact Nat.le_refl _) (by omega) (by simp; omega) L1 R1 (fun h2 f2 R2 => ⟨rfl, ?_⟩)⟩⟩
    refine fin h2 _ ?_ f2 R2
    unfold writeV
    rw [e]
    simp
  · have e : br = true := (b2i_ne _).mp z
    rw [H1.1.2.2.2.2.2.2.1, H1.1.2.2.1]
    refine ⟨L1.1.1, s6_writeInBrackets (by omega) (by simp; omega) L1 R1 (fun h2 f2 R2 => ⟨rfl, ?_⟩)⟩
    refine fin h2 _ ?_ f2 R2
    unfold writeV
    rw [e]
    simp
end U2
