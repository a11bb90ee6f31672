/-! LABELS -/
def dE : jE := (0, 0, [], 0)
/-- element k of the label at L -/
def elV (h : jH) (L k : Nat) : Nat := hQ h (L + 1) (k : Int)
def labSh (h : jH) (L : Nat) : Prop := hK h L = 5 ∧ hR h 400 L = L + 1 ∧ hR h 401 L = L + 2 ∧ hK h (L + 1) = 14 ∧ hK h (L + 2) = 14 ∧ hN h (L + 1) = 20 ∧ hN h (L + 2) = 20 ∧ (∀ k, k < 20 → ∃ j, j < 20 ∧ elV h L k = L + 3 + 3 * j) ∧ (∀ i, i < 20 → ∀ j, j < 20 → elV h L i = elV h L j → i = j) ∧ ∀ j, j < 20 → shEl h (L + 3 + 3 * j)
def isLab (h : jH) (L : Nat) (es : List jE) : Prop := labSh h L ∧ hI h 402 L = es.length ∧ es.length ≤ 20 ∧ ∀ k, k < es.length → isEl h (elV h L k) (es.getD k dE)
theorem jFI_elV {a b : Nat} {h h1 : jH} (p : jFI a b h h1) (L k : Nat) : elV h1 L k = elV h L k := by
  unfold elV
  rw [p.2.1]
theorem labSh.rg {h : jH} {L : Nat} (H : labSh h L) {k : Nat} (hk : k < 20) : L + 3 ≤ elV h L k ∧ elV h L k + 3 ≤ L + 63 := by
  obtain ⟨j, hj, e⟩ := H.2.2.2.2.2.2.2.1 k hk
  omega
theorem labSh.el {h : jH} {L : Nat} (H : labSh h L) {k : Nat} (hk : k < 20) : shEl h (elV h L k) := by
  obtain ⟨j, hj, e⟩ := H.2.2.2.2.2.2.2.1 k hk
  rw [e]
  exact H.2.2.2.2.2.2.2.2.2 j hj
theorem labSh.ne {h : jH} {L : Nat} (H : labSh h L) {i k : Nat} (hi : i < 20) (hk : k < 20) (hn : i ≠ k) : elV h L i + 3 ≤ elV h L k ∨ elV h L k + 3 ≤ elV h L i := by
  obtain ⟨j, hj, e⟩ := H.2.2.2.2.2.2.2.1 k hk
  obtain ⟨j2, hj2, e2⟩ := H.2.2.2.2.2.2.2.1 i hi
  have : elV h L i ≠ elV h L k := fun q => hn (H.2.2.2.2.2.2.2.2.1 i hi k hk q)
  omega
/-- a change within one element, or of what is no element -/
theorem labSh.step {a b : Nat} {h h1 : jH} {L : Nat} (H : labSh h L) (p : jFI a b h h1) (hs : ∀ j, j < 20 → shEl h1 (L + 3 + 3 * j)) : labSh h1 L := by
  obtain ⟨q1, q2, q3, q4, q5, q6, q7, q8, q9, q10⟩ := H
  have p' := p
  obtain ⟨p1, p2, p3, p4, p5, p6, p7⟩ := p
  exact ⟨by rw [p3]; exact q1, by rw [p1]; exact q2, by rw [p1]; exact q3, by rw [p3]; exact q4, by rw [p3]; exact q5, by rw [p4]; exact q6, by rw [p4]; exact q7, fun k hk => by rw [jFI_elV p']; exact q8 k hk, fun i hi j hj e => q9 i hi j hj (by rw [← jFI_elV p', ← jFI_elV p']; exact e), hs⟩
theorem jFI.labSh {a b : Nat} {h h1 : jH} {L : Nat} (p : jFI a b h h1) (H : labSh h L) (hd : L + 63 ≤ a ∨ b ≤ L + 3) : labSh h1 L :=
  H.step p (fun j hj => p.sh (H.2.2.2.2.2.2.2.2.2 j hj) (by omega))
theorem jFI.lab {a b : Nat} {h h1 : jH} {L : Nat} {es : List jE} (p : jFI a b h h1) (H : isLab h L es) (hd : L + 63 ≤ a ∨ b ≤ L) : isLab h1 L es := by
  obtain ⟨q1, q2, q3, q4⟩ := H
  refine ⟨p.labSh q1 (by omega), by rw [(p.2.2.2.2.2.2 L (by omega)).1]; exact q2, q3, fun k hk => ?_⟩
  rw [jFI_elV p]
  have := q1.rg (k := k) (by omega)
  exact p.el (q4 k hk) (by omega)
theorem labSh.at1 {h h1 : jH} {L k : Nat} (H : labSh h L) (hk : k < 20) (p : jFI (elV h L k) (elV h L k + 3) h h1) (hs : shEl h1 (elV h L k)) : labSh h1 L := by
  refine H.step p (fun j hj => ?_)
  obtain ⟨j2, hj2, e⟩ := H.2.2.2.2.2.2.2.1 k hk
  by_cases q : j = j2
  · subst q
    rw [← e]
    exact hs
  · exact p.sh (H.2.2.2.2.2.2.2.2.2 j hj) (by omega)
section L6
variable {d : Nat} {h : jH} {Q : jO → jH → Prop} {L M : Nat} {es fs : List jE}
theorem isLab.q (H : isLab h L es) {k : Nat} (hk : k < es.length) : hK h (hQ h (L + 1) (k : Int)) = 3 := (H.2.2.2 k hk).1
theorem s6_count (H : isLab h L es) (k : Q (.inl (some (jI es.length))) h) : jCall d mX6_count [jR L] h Q := bX6_count (fun _ => ⟨H.1.1, fun _ => by rw [H.2.1]; exact k⟩)
theorem isLab.setN (H : isLab h L es) {fs : List jE} (hf : fs.length ≤ 20) (he : ∀ k, k < fs.length → isEl h (elV h L k) (fs.getD k dE)) : isLab (sI h 402 L fs.length) L fs := by
  refine ⟨(jFI_I h 402 L _).labSh H.1 (by omega), by rw [hI_sI, if_pos ⟨.refl _, .refl _⟩], hf, fun k hk => ?_⟩
  have p := jFI_I h 402 L fs.length
  rw [jFI_elV p]
  have := H.1.rg (k := k) (by omega)
  exact p.el (he k hk) (by omega)
theorem labSh.setN (H : labSh h L) {fs : List jE} (hf : fs.length ≤ 20) (he : ∀ k, k < fs.length → isEl h (elV h L k) (fs.getD k dE)) : isLab (sI h 402 L fs.length) L fs := by
  refine ⟨(jFI_I h 402 L _).labSh H (by omega), by rw [hI_sI, if_pos ⟨.refl _, .refl _⟩], hf, fun k hk => ?_⟩
  have p := jFI_I h 402 L fs.length
  rw [jFI_elV p]
  have := H.rg (k := k) (by omega)
  exact p.el (he k hk) (by omega)
theorem s6_clear (H : labSh h L) (k : ∀ h', jFI L (L + 63) h h' → isLab h' L [] → Q (.inl none) h') : jCall d mX6_clear [jR L] h Q :=
  bX6_clear (fun _ => ⟨H.1, k _ ((jFI_I h 402 L 0).mono (by omega) (by omega)) (H.setN (fs := []) (by simp) (fun k hk => by simp at hk))⟩)
theorem s6_at {i : Int} (H : isLab h L es) (k0 : (i < 0 ∨ es.length ≤ i) → Q (.inl (some (jR 0))) h) (k1 : 0 ≤ i → i < es.length → Q (.inl (some (jR (elV h L i.toNat)))) h) : jCall d mX6_at [jR L, jI i] h Q := by
  have q := H.2.2.1
  refine bX6_at (fun _ _ => ⟨fun z => k0 (by omega), fun z => ⟨H.1.1, fun _ => ?_⟩⟩)
  rw [H.2.1, H.1.2.1, H.1.2.2.2.2.2.1]
  refine ⟨fun z2 => ⟨H.1.2.2.2.1, by omega, by omega, ?_⟩, fun z2 => k0 (by omega)⟩
  have := k1 (by omega) (by omega)
  unfold elV at this
  rw [Int.toNat_of_nonneg (by omega)] at this
  exact this
theorem s6_grow (H : isLab h L es) (k0 : es.length = 20 → Q (.inl (some (jR 0))) h) (k1 : es.length < 20 → Q (.inl (some (jR (elV h L es.length)))) (sI h 402 L (es.length + 1))) : jCall d mX6_grow [jR L] h Q := by
  have q := H.2.2.1
  refine bX6_grow (fun _ => ⟨H.1.1, fun _ => ?_⟩)
  rw [H.2.1, H.1.2.1, H.1.2.2.2.2.2.1]
  refine ⟨fun z => ⟨⟨by omega, by omega⟩, fun _ => ?_⟩, fun z => k0 (by omega)⟩
  rw [hI_sI, if_pos ⟨.refl _, .refl _⟩, show ((es.length : Int) + 1 - 1) = es.length by omega]
  exact ⟨⟨by omega, by omega⟩, H.1.2.2.2.1, by omega, by omega, k1 (by omega)⟩
theorem s6_copyFrom_loop (hLM : L + 63 ≤ M ∨ M + 63 ≤ L) (n : Nat) : ∀ (i : Nat) (h : jH), i + n = fs.length → labSh h L → isLab h M fs → (∀ k, k < i → isEl h (elV h L k) (fs.getD k dE)) → (∀ h', jFI L (L + 63) h h' → isLab h' L fs → Q (.inl none) h') → jWp (d + 3) mX6_copyFrom 2 [(0, jR L), (1, jR M), (2, jI i)] [] h Q := by
  induction n with
  | zero =>
    intro i h hn H HM he k
    refine bX6_copyFrom_2 (fun _ _ => ⟨HM.1.1, fun _ => ⟨fun _ => ⟨H.1, ?_⟩, fun z => ?_⟩⟩)
    · rw [HM.2.1]
      exact k _ ((jFI_I h 402 L _).mono (by omega) (by omega)) (H.setN HM.2.2.1 (fun k hk => he k (by omega)))
    · rw [HM.2.1] at z
      omega
  | succ n ih =>
    intro i h hn H HM he k
    have q := HM.2.2.1
    refine bX6_copyFrom_2 (fun _ _ => ⟨HM.1.1, fun _ => ⟨fun z => ?_, fun z => ⟨H.1, ?_⟩⟩⟩)
    · rw [HM.2.1] at z
      omega
    · rw [H.2.1, HM.1.2.1, H.2.2.2.2.2.1, HM.1.2.2.2.2.2.1]
      have r1 := H.rg (k := i) (by omega)
      have r2 := HM.1.rg (k := i) (by omega)
      have s1 := H.el (k := i) (by omega)
      rw [show hQ h (L + 1) (i : Int) = elV h L i from rfl, show hQ h (M + 1) (i : Int) = elV h M i from rfl]
      refine ⟨H.2.2.2.1, by omega, by omega, HM.1.2.2.2.1, by omega, s1.1, s4_copyFrom s1 (HM.2.2.2 i (by omega)) (by omega) (fun h' f1 g1 => ⟨rfl, ⟨by omega, by omega⟩, ?_⟩)⟩
      refine ih (i + 1) h' (by omega) (H.at1 (by omega) f1 g1.sh) (f1.lab HM (by omega)) (fun k hk => ?_) (fun h2 f2 g2 => k h2 ((f1.mono (by omega) (by omega)).trans f2) g2)
      rw [jFI_elV f1]
      by_cases e : k = i
      · subst e
        exact g1
      · have := H.ne (i := k) (k := i) (by omega) (by omega) e
        exact f1.el (he k (by omega)) (by omega)
theorem s6_copyFrom (hLM : L + 63 ≤ M ∨ M + 63 ≤ L) (H : labSh h L) (HM : isLab h M fs) (k : ∀ h', jFI L (L + 63) h h' → isLab h' L fs → Q (.inl none) h') : jCall (d + 3) mX6_copyFrom [jR L, jR M] h Q :=
  bX6_copyFrom (fun _ => s6_copyFrom_loop hLM fs.length 0 h (by omega) H HM (fun k hk => by omega) k)
theorem s6_append_loop (hLM : L + 63 ≤ M ∨ M + 63 ≤ L) (hs : es.length + fs.length ≤ 20) (n : Nat) : ∀ (i : Nat) (h : jH), i + n = fs.length → isLab h L es → isLab h M fs → (∀ k, k < i → isEl h (elV h L (es.length + k)) (fs.getD k dE)) → (∀ h', jFI L (L + 63) h h' → isLab h' L (es ++ fs) → Q (.inl (some (jI 1))) h') → jWp (d + 3) mX6_append 18 [(0, jR L), (1, jR M), (2, jI i)] [] h Q := by
  induction n with
  | zero =>
    intro i h hn H HM he k
    refine bX6_append_18 (fun _ _ => ⟨HM.1.1, fun _ => ⟨fun _ => ⟨H.1.1, fun _ => ?_⟩, fun z => ?_⟩⟩)
    · rw [HM.2.1, H.2.1]
      refine ⟨⟨by omega, by omega⟩, ?_⟩
      have := H.setN (fs := es ++ fs) (by simp; omega) (fun k hk => by
        by_cases q : k < es.length
        · rw [List.getD_eq_getElem?_getD, List.getElem?_append_left q, ← List.getD_eq_getElem?_getD]
          exact H.2.2.2 k q
        · rw [List.getD_eq_getElem?_getD, List.getElem?_append_right (by omega), ← List.getD_eq_getElem?_getD]
          simp at hk
          have := he (k - es.length) (by omega)
          rw [show es.length + (k - es.length) = k by omega] at this
          exact this)
      rw [List.length_append, Int.natCast_add] at this
      exact k _ ((jFI_I h 402 L _).mono (by omega) (by omega)) this
    · rw [HM.2.1] at z
      omega
  | succ n ih =>
    intro i h hn H HM he k
    refine bX6_append_18 (fun _ _ => ⟨HM.1.1, fun _ => ⟨fun z => ?_, fun z => ⟨H.1.1, fun _ => ?_⟩⟩⟩)
    · rw [HM.2.1] at z
      omega
    · rw [H.2.1, H.1.2.1, HM.1.2.1, H.1.2.2.2.2.2.1, HM.1.2.2.2.2.2.1]
      have r1 := H.1.rg (k := es.length + i) (by omega)
      have r2 := HM.1.rg (k := i) (by omega)
      have s1 := H.1.el (k := es.length + i) (by omega)
      have e0 : hQ h (L + 1) ((es.length : Int) + i) = elV h L (es.length + i) := by unfold elV; rw [Int.natCast_add]
      rw [e0]
      refine ⟨⟨by omega, by omega⟩, H.1.2.2.2.1, by omega, by omega, HM.1.2.2.2.1, by omega, by omega, s1.1, s4_copyFrom s1 (HM.2.2.2 i (by omega)) (show elV h M i + 3 ≤ elV h L (es.length + i) ∨ elV h L (es.length + i) + 3 ≤ elV h M i by omega) (fun h' f1 g1 => ⟨rfl, ⟨by omega, by omega⟩, ?_⟩)⟩
      have H' : isLab h' L es := by
        refine ⟨H.1.at1 (by omega) f1 g1.sh, by rw [(f1.2.2.2.2.2.2 L (by omega)).1]; exact H.2.1, H.2.2.1, fun k hk => ?_⟩
        rw [jFI_elV f1]
        have := H.1.ne (i := k) (k := es.length + i) (by omega) (by omega) (by omega)
        exact f1.el (H.2.2.2 k hk) (by omega)
      refine ih (i + 1) h' (by omega) H' (f1.lab HM (by omega)) (fun k hk => ?_) (fun h2 f2 g2 => k h2 ((f1.mono (by omega) (by omega)).trans f2) g2)
      rw [jFI_elV f1]
      by_cases e : k = i
      · subst e
        exact g1
      · have := H.1.ne (i := es.length + k) (k := es.length + i) (by omega) (by omega) (by omega)
        exact f1.el (he k (by omega)) (by omega)
theorem s6_append (hLM : L + 63 ≤ M ∨ M + 63 ≤ L) (H : isLab h L es) (HM : isLab h M fs) (k0 : 20 < es.length + fs.length → Q (.inl (some (jI 0))) h) (k1 : es.length + fs.length ≤ 20 → ∀ h', jFI L (L + 63) h h' → isLab h' L (es ++ fs) → Q (.inl (some (jI 1))) h') : jCall (d + 3) mX6_append [jR L, jR M] h Q := by
  have q1 := H.2.2.1
  have q2 := HM.2.2.1
  refine bX6_append (fun _ => ⟨H.1.1, fun _ => ⟨HM.1.1, fun _ => ?_⟩⟩)
  rw [H.2.1, HM.2.1]
  exact ⟨⟨by omega, by omega⟩, fun z => s6_append_loop hLM (by omega) fs.length 0 h (by omega) H HM (fun k hk => by omega) (k1 (by omega)), fun z => k0 (by omega)⟩
/-- what 'same' compares -/
def keyE (x : jE) : Int × Int × List Int := (x.1, x.2.1, x.2.2.1)
theorem dropE {es : List jE} {i : Nat} (h : i < es.length) : es.drop i = es.getD i dE :: es.drop (i + 1) := by
  rw [List.drop_eq_getElem_cons h, List.getD_eq_getElem?_getD, List.getElem?_eq_getElem h]
  rfl
theorem s6_isSameAs_loop (n : Nat) : ∀ i : Nat, i + n = es.length → es.length = fs.length → isLab h L es → isLab h M fs → (∀ b : Bool, (b = true ↔ (es.drop i).map keyE = (fs.drop i).map keyE) → Q (.inl (some (jI (b2i b)))) h) → jWp (d + 2) mX6_isSameAs 15 [(0, jR L), (1, jR M), (2, jI i)] [] h Q := by
  induction n with
  | zero =>
    intro i hn hl H HM k
    refine bX6_isSameAs_15 (fun _ _ => ⟨H.1.1, fun _ => ⟨fun _ => ?_, fun z => ?_⟩⟩)
    · rw [List.drop_eq_nil_of_le (by omega), List.drop_eq_nil_of_le (by omega)] at k
      exact k true ⟨fun _ => rfl, fun _ => rfl⟩
    · rw [H.2.1] at z
      omega
  | succ n ih =>
    intro i hn hl H HM k
    have q := H.2.2.1
    rw [dropE (es := es) (i := i) (by omega), dropE (es := fs) (i := i) (by omega), List.map_cons, List.map_cons, List.cons.injEq] at k
    refine bX6_isSameAs_15 (fun _ _ => ⟨H.1.1, fun _ => ⟨fun z => ?_, fun z => ?_⟩⟩)
    · rw [H.2.1] at z
      omega
    · rw [H.1.2.1, HM.1.2.1, H.1.2.2.2.2.2.1, HM.1.2.2.2.2.2.1]
      refine ⟨H.1.2.2.2.1, by omega, by omega, HM.1.1, HM.1.2.2.2.1, by omega, H.q (by omega), s4_isSameAs (H.2.2.2 i (by omega)) (HM.2.2.2 i (by omega)) ⟨_, rfl, fun y => ⟨⟨by omega, by omega⟩, ?_⟩, fun y => ?_⟩⟩
      · have w := of_decide_eq_true ((b2i_ne _).mp y)
        have e : keyE (es.getD i dE) = keyE (fs.getD i dE) := by
          unfold keyE
          rw [w.1, w.2.1, w.2.2]
        exact ih (i + 1) (by omega) hl H HM (fun b hb => k b ⟨fun y => ⟨e, hb.mp y⟩, fun y => hb.mpr y.2⟩)
      · have w := of_decide_eq_false ((b2i_eq _).mp y)
        refine k false ⟨fun y => (by cases y), fun y => absurd ?_ w⟩
        have q := y.1
        unfold keyE at q
        simp only [Prod.mk.injEq] at q
        exact q
theorem s6_isSameAs (H : isLab h L es) (HM : isLab h M fs) (k : Q (.inl (some (jI (b2i (decide (es.map keyE = fs.map keyE)))))) h) : jCall (d + 2) mX6_isSameAs [jR L, jR M] h Q := by
  refine bX6_isSameAs (fun _ => ⟨H.1.1, fun _ => ⟨HM.1.1, fun _ => ?_⟩⟩)
  rw [H.2.1, HM.2.1]
  refine ⟨fun z => s6_isSameAs_loop es.length 0 (by omega) (by omega) H HM (fun b hb => ?_), fun z => ?_⟩
  · have : b = decide (es.map keyE = fs.map keyE) := by
      cases b with
      | true => exact (decide_eq_true (hb.mp rfl)).symm
      | false => exact (decide_eq_false (fun y => by have := hb.mpr y; cases this)).symm
    rw [this]
    exact k
  · have : ¬ es.map keyE = fs.map keyE := fun e => z (by have := congrArg List.length e; simp at this; omega)
    rw [decide_eq_false this] at k
    exact k
/-- the first place whose element has p, from i on -/
def idxE (p : jE → Bool) : List jE → Nat → Int
  | [], _ => -1
  | x :: t, i => if p x = true then i else idxE p t (i + 1)
theorem s6_placeOf_loop {a dg : Int} (H : isLab h L es) (n : Nat) : ∀ i : Nat, i + n = es.length → Q (.inl (some (jI (idxE (fun x => decide (x.1 = a ∧ x.2.1 = dg)) (es.drop i) i)))) h → jWp (d + 1) mX6_placeOf 2 [(0, jR L), (1, jI a), (2, jI dg), (3, jI i)] [] h Q := by
  have q := H.2.2.1
  induction n with
  | zero =>
    intro i hn k
    refine bX6_placeOf_2 (fun _ _ _ _ => ⟨H.1.1, fun _ => ⟨fun _ => ?_, fun z => ?_⟩⟩)
    · rw [List.drop_eq_nil_of_le (by omega)] at k
      exact k
    · rw [H.2.1] at z
      omega
  | succ n ih =>
    intro i hn k
    rw [dropE (by omega)] at k
    unfold idxE at k
    have next : ¬ ((es.getD i dE).1 = a ∧ (es.getD i dE).2.1 = dg) → j32 ((i : Int) + 1) ∧ jWp (d + 1) mX6_placeOf 2 [(0, jR L), (1, jI a), (2, jI dg), (3, jI ((i : Int) + 1))] [] h Q := fun z => by
      rw [if_neg (fun y => z (of_decide_eq_true y))] at k
      exact ⟨⟨by omega, by omega⟩, ih (i + 1) (by omega) k⟩
    refine bX6_placeOf_2 (fun _ _ _ _ => ⟨H.1.1, fun _ => ⟨fun z => ?_, fun z => ?_⟩⟩)
    · rw [H.2.1] at z
      omega
    · rw [H.1.2.1, H.1.2.2.2.2.2.1]
      refine ⟨H.1.2.2.2.1, by omega, by omega, H.q (by omega), s4_ai (H.2.2.2 i (by omega)) ⟨_, rfl, fun z2 => next (fun y => z2 y.1), fun z2 => ⟨H.1.1, ?_⟩⟩⟩
      rw [H.1.2.1, H.1.2.2.2.2.2.1]
      refine ⟨H.1.2.2.2.1, by omega, by omega, H.q (by omega), s4_digits (H.2.2.2 i (by omega)) ⟨_, rfl, fun z3 => next (fun y => z3 y.2), fun z3 => ?_⟩⟩
      rw [if_pos (decide_eq_true ⟨z2, z3⟩)] at k
      exact k
theorem s6_placeOf {a dg : Int} (H : isLab h L es) (k : Q (.inl (some (jI (idxE (fun x => decide (x.1 = a ∧ x.2.1 = dg)) es 0)))) h) : jCall (d + 1) mX6_placeOf [jR L, jI a, jI dg] h Q :=
  bX6_placeOf (fun _ _ _ => s6_placeOf_loop H es.length 0 (by omega) k)
def famE (x : jE) : Int := famV x.1 x.2.1
theorem s6_placeOfFamily_loop {f : Int} (H : isLab h L es) (n : Nat) : ∀ i : Nat, i + n = es.length → Q (.inl (some (jI (idxE (fun x => decide (famE x = f)) (es.drop i) i)))) h → jWp (d + 1) mX6_placeOfFamily 2 [(0, jR L), (1, jI f), (2, jI i)] [] h Q := by
  have q := H.2.2.1
  induction n with
  | zero =>
    intro i hn k
    refine bX6_placeOfFamily_2 (fun _ _ _ => ⟨H.1.1, fun _ => ⟨fun _ => ?_, fun z => ?_⟩⟩)
    · rw [List.drop_eq_nil_of_le (by omega)] at k
      exact k
    · rw [H.2.1] at z
      omega
  | succ n ih =>
    intro i hn k
    rw [dropE (by omega)] at k
    unfold idxE at k
    refine bX6_placeOfFamily_2 (fun _ _ _ => ⟨H.1.1, fun _ => ⟨fun z => ?_, fun z => ?_⟩⟩)
    · rw [H.2.1] at z
      omega
    · rw [H.1.2.1, H.1.2.2.2.2.2.1]
      refine ⟨H.1.2.2.2.1, by omega, by omega, H.q (by omega), s4_family (H.2.2.2 i (by omega)) ⟨_, rfl, fun z2 => ⟨⟨by omega, by omega⟩, ?_⟩, fun z2 => ?_⟩⟩
      · change famE (es.getD i dE) ≠ f at z2
        rw [if_neg (fun y => z2 (of_decide_eq_true (p := famE (es.getD i dE) = f) y))] at k
        exact ih (i + 1) (by omega) k
      · change famE (es.getD i dE) = f at z2
        rw [if_pos (decide_eq_true z2)] at k
        exact k
theorem s6_placeOfFamily {f : Int} (H : isLab h L es) (k : Q (.inl (some (jI (idxE (fun x => decide (famE x = f)) es 0)))) h) : jCall (d + 1) mX6_placeOfFamily [jR L, jI f] h Q :=
  bX6_placeOfFamily (fun _ _ => s6_placeOfFamily_loop H es.length 0 (by omega) k)
/-- element i stands for an AI that stands ahead of it, too -/
def repB (es : List jE) (i : Int) : Bool := decide (0 ≤ i ∧ i < es.length ∧ idxE (fun x => decide (famE x = famE (es.getD i.toNat dE))) es 0 ≠ i)
theorem s6_isRepeated {i : Int} (H : isLab h L es) (k : Q (.inl (some (jI (b2i (repB es i))))) h) : jCall (d + 2) mX6_isRepeated [jR L, jI i] h Q := by
  have q := H.2.2.1
  have no : ¬ (0 ≤ i ∧ i < es.length ∧ idxE (fun x => decide (famE x = famE (es.getD i.toNat dE))) es 0 ≠ i) → Q (.inl (some (jI 0))) h := fun z => by
    unfold repB at k
    rw [decide_eq_false z] at k
    exact k
  refine bX6_isRepeated (fun _ _ => ⟨fun z => no (by omega), fun z => ⟨H.1.1, fun _ => ?_⟩⟩)
  rw [H.2.1, H.1.2.1, H.1.2.2.2.2.2.1]
  refine ⟨fun z => no (by omega), fun z2 => ?_⟩
  have e0 : hQ h (L + 1) i = elV h L i.toNat := by unfold elV; rw [Int.toNat_of_nonneg (by omega)]
  rw [e0]
  have he := H.2.2.2 i.toNat (by omega)
  refine ⟨H.1.2.2.2.1, by omega, by omega, he.1, s4_family he ⟨_, rfl, H.1.1, s6_placeOfFamily H ⟨_, rfl, fun z3 => no (fun y => y.2.2 z3), fun z3 => ?_⟩⟩⟩
  unfold repB at k
  rw [decide_eq_true ⟨by omega, by omega, z3⟩] at k
  exact k
/-- for some number of n from i on -/
def anyN (p : Nat → Bool) : Nat → Nat → Bool
  | 0, _ => false
  | n + 1, i => p i || anyN p n (i + 1)
def allN (p : Nat → Bool) : Nat → Nat → Bool
  | 0, _ => true
  | n + 1, i => p i && allN p n (i + 1)
def hasF (es : List jE) (f : Int) : Bool := es.any (fun x => decide (famE x = f))
theorem idxE_any (p : jE → Bool) : ∀ (es : List jE) (i : Nat), idxE p es i = -1 ↔ es.any p = false
  | [], i => by simp [idxE]
  | x :: t, i => by
    unfold idxE
    rw [List.any_cons]
    by_cases q : p x = true
    · rw [if_pos q, q]
      simp
    · rw [if_neg q, show p x = false by simpa using q, Bool.false_or]
      exact idxE_any p t (i + 1)
def wntB (es : List jE) (w : Int) (j : Nat) : Bool := decide (wantedV w j ≠ -1) && hasF es (wantedV w j)
theorem s6_hasWanted_loop {w : Int} (hw : -1 ≤ w ∧ w < 1000) (H : isLab h L es) (n : Nat) : ∀ i : Nat, i + n = 7 → Q (.inl (some (jI (b2i (anyN (wntB es w) n i))))) h → jWp (d + 2) mX6_hasWanted 2 [(0, jR L), (1, jI w), (2, jI i)] [] h Q := by
  induction n with
  | zero =>
    intro i hn k
    exact bX6_hasWanted_2 (fun _ _ _ => ⟨fun _ => k, fun z => by omega⟩)
  | succ n ih =>
    intro i hn k
    unfold anyN wntB at k
    have next : (decide (wantedV w i ≠ -1) && hasF es (wantedV w i)) = false → j32 ((i : Int) + 1) ∧ jWp (d + 2) mX6_hasWanted 2 [(0, jR L), (1, jI w), (2, jI ((i : Int) + 1))] [] h Q := fun z => by
      rw [z, Bool.false_or] at k
      exact ⟨⟨by omega, by omega⟩, ih (i + 1) (by omega) k⟩
    refine bX6_hasWanted_2 (fun _ _ _ => ⟨fun z => by omega, fun z => s8_wanted hw.1 hw.2 ⟨_, rfl, fun z2 => next ?_, fun z2 => ⟨H.1.1, s6_placeOfFamily H ⟨_, rfl, fun z3 => next ?_, fun z3 => ?_⟩⟩⟩⟩)
    · rw [decide_eq_false (by omega)]; rfl
    · rw [idxE_any] at z3
      unfold hasF
      rw [z3, Bool.and_false]
    · have : hasF es (wantedV w i) = true := by
        unfold hasF
        rw [idxE_any] at z3
        simpa using z3
      rw [this, decide_eq_true z2] at k
      exact k
def hasW (es : List jE) (w : Int) : Bool := anyN (wntB es w) 7 0
theorem s6_hasWanted {w : Int} (hw : -1 ≤ w ∧ w < 1000) (H : isLab h L es) (k : Q (.inl (some (jI (b2i (hasW es w))))) h) : jCall (d + 2) mX6_hasWanted [jR L, jI w] h Q :=
  bX6_hasWanted (fun _ _ => s6_hasWanted_loop hw H 7 0 (by omega) k)
/-- the wants that f's elements have are met -/
def metB (es : List jE) (f : Int) (w : Nat) : Bool := !(wantOf w f) || (hasW es w == decide (wanV w 2 = 1))
theorem s6_isWantMet_loop {i : Nat} (hi : i < es.length) (H : isLab h L es) (n : Nat) : ∀ w : Nat, w + n = 13 → Q (.inl (some (jI (b2i (allN (metB es (famE (es.getD i dE))) n w))))) h → jWp (d + 3) mX6_isWantMet 16 [(0, jR L), (1, jI i), (2, jI w)] [] h Q := by
  have q := H.2.2.1
  induction n with
  | zero =>
    intro w hn k
    exact bX6_isWantMet_16 (fun _ _ _ => s8_wants ⟨_, rfl, fun _ => k, fun z => by omega⟩)
  | succ n ih =>
    intro w hn k
    unfold allN at k
    have next : metB es (famE (es.getD i dE)) w = true → j32 ((w : Int) + 1) ∧ jWp (d + 3) mX6_isWantMet 16 [(0, jR L), (1, jI i), (2, jI ((w : Int) + 1))] [] h Q := fun z => by
      rw [z, Bool.true_and] at k
      exact ⟨⟨by omega, by omega⟩, ih (w + 1) (by omega) k⟩
    refine bX6_isWantMet_16 (fun _ _ _ => s8_wants ⟨_, rfl, fun z => by omega, fun z => ⟨H.1.1, ?_⟩⟩)
    rw [H.1.2.1, H.1.2.2.2.2.2.1]
    refine ⟨H.1.2.2.2.1, by omega, by omega, H.q hi, s4_family (H.2.2.2 i hi) ⟨_, rfl, s8_isWantOf (by omega) (by omega) ⟨_, rfl, fun z2 => next ?_, fun z2 => ⟨H.1.1, s6_hasWanted ⟨by omega, by omega⟩ H ⟨_, rfl, s8_wantsOne (by omega) (by omega) ⟨_, rfl, fun z3 => next ?_, fun z3 => ?_⟩⟩⟩⟩⟩⟩
    · unfold metB famE
      rw [(b2i_eq _).mp z2]; rfl
    · unfold metB
      have e : ∀ a b : Bool, b2i a = b2i b → a = b := by decide
      rw [e _ _ z3]
      simp
    · have e : ∀ a b : Bool, ¬ b2i a = b2i b → (a == b) = false := by decide
      unfold metB at k
      rw [e _ _ z3, show wantOf w (famE (es.getD i dE)) = true from (b2i_ne _).mp z2] at k
      exact k
def metW (es : List jE) (i : Int) : Bool := decide (i < 0 ∨ es.length ≤ i) || allN (metB es (famE (es.getD i.toNat dE))) 13 0
theorem s6_isWantMet {i : Int} (H : isLab h L es) (k : Q (.inl (some (jI (b2i (metW es i))))) h) : jCall (d + 3) mX6_isWantMet [jR L, jI i] h Q := by
  unfold metW at k
  refine bX6_isWantMet (fun _ _ => ⟨fun z => ?_, fun z => ⟨H.1.1, fun _ => ?_⟩⟩)
  · rw [decide_eq_true (by omega)] at k
    exact k
  · rw [H.2.1]
    refine ⟨fun z2 => ?_, fun z2 => ?_⟩
    · rw [decide_eq_false (by omega), Bool.false_or] at k
      have := s6_isWantMet_loop (d := d) (i := i.toNat) (by omega) H 13 0 (by omega) k
      rw [Int.toNat_of_nonneg (by omega)] at this
      exact this
    · rw [decide_eq_true (by omega)] at k
      exact k
def togB (es : List jE) (i : Nat) : Bool := !repB es i && metW es i
theorem s6_goesTogether_loop (H : isLab h L es) (n : Nat) : ∀ i : Nat, i + n = es.length → Q (.inl (some (jI (b2i (allN (togB es) n i))))) h → jWp (d + 4) mX6_goesTogether 2 [(0, jR L), (1, jI i)] [] h Q := by
  have q := H.2.2.1
  induction n with
  | zero =>
    intro i hn k
    refine bX6_goesTogether_2 (fun _ _ => ⟨H.1.1, fun _ => ⟨fun _ => k, fun z => ?_⟩⟩)
    rw [H.2.1] at z
    omega
  | succ n ih =>
    intro i hn k
    unfold allN togB at k
    refine bX6_goesTogether_2 (fun _ _ => ⟨H.1.1, fun _ => ⟨fun z => ?_, fun z => s6_isRepeated H ⟨_, rfl, fun z2 => ?_, fun z2 => ⟨H.1.1, s6_isWantMet H ⟨_, rfl, fun z3 => ⟨⟨by omega, by omega⟩, ?_⟩, fun z3 => ?_⟩⟩⟩⟩⟩)
    · rw [H.2.1] at z
      omega
    · rw [(b2i_ne _).mp z2] at k
      exact k
    · rw [(b2i_eq _).mp z2, (b2i_ne _).mp z3] at k
      exact ih (i + 1) (by omega) k
    · rw [(b2i_eq _).mp z3, Bool.and_false] at k
      exact k
theorem s6_goesTogether (H : isLab h L es) (k : Q (.inl (some (jI (b2i (allN (togB es) es.length 0))))) h) : jCall (d + 4) mX6_goesTogether [jR L] h Q :=
  bX6_goesTogether (fun _ => s6_goesTogether_loop H es.length 0 (by omega) k)
end L6
