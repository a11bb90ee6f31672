/-! THE MODEL: parts of elements -/
/-- what the invariant says of an element of a list -/
def okE (x : jE) : Prop := lineV x.1 x.2.1 ≠ -1 ∧ (∀ b ∈ x.2.2.1, 32 ≤ b ∧ b < 128) ∧ (∀ j : Int, pbV (lineV x.1 x.2.1) x.2.2.1.length j ≠ -1 → psV (lineV x.1 x.2.1) j ≠ 2 → digB x.2.2.1 (pbV (lineV x.1 x.2.1) x.2.2.1.length j) (pzV (lineV x.1 x.2.1) x.2.2.1.length j) = true) ∧ (∀ j : Int, pbV (lineV x.1 x.2.1) x.2.2.1.length j ≠ -1 → psV (lineV x.1 x.2.1) j = 4 → pbV (lineV x.1 x.2.1) x.2.2.1.length j + 6 ≤ x.2.2.1.length) ∧ 1950 ≤ x.2.2.2 ∧ x.2.2.2 ≤ 2200
theorem digB_iff {l : List Int} {f n : Nat} (h : f + n ≤ l.length) : digB l f n = true ↔ ∀ i : Nat, i < n → isD (l.getD (f + i) 0) = true := by
  induction n generalizing f with
  | zero =>
    simp [digB, seg_zero]
    omega
  | succ n ih =>
    have e : digB l f (n + 1 : Nat) = (isD (l.getD f 0) && digB l ((f + 1 : Nat) : Int) n) := by
      unfold digB
      rw [decide_eq_true (by omega), decide_eq_true (by omega), Bool.true_and, Bool.true_and]
      simp only [Int.toNat_natCast]
      rw [seg_cons (by omega)]
      rfl
    rw [e, Bool.and_eq_true, ih (by omega)]
    constructor
    · rintro ⟨h1, h2⟩ i hi
      cases i with
      | zero => exact h1
      | succ i =>
        have := h2 i (by omega)
        rwa [show f + 1 + i = f + (i + 1) by omega] at this
    · intro g
      refine ⟨g 0 (by omega), fun i hi => ?_⟩
      have := g (i + 1) (by omega)
      rwa [show f + 1 + i = f + (i + 1) by omega]
theorem isD_rg {c : Int} (h : isD c = true) : 48 ≤ c ∧ c ≤ 57 := of_decide_eq_true h
theorem pb_mono {a dg : Int} (hl : lineV a dg ≠ -1) {len i j : Int} (h0 : 0 ≤ i) (hij : i ≤ j) (h : pbV (lineV a dg) len i = -1) : pbV (lineV a dg) len j = -1 := by
  have m := sumM_mono (lineV a dg) i.toNat (j.toNat - i.toNat)
  rw [show i.toNat + (j.toNat - i.toNat) = j.toNat by omega] at m
  have s := sumM_rg (lineV a dg) i.toNat
  unfold pbV at *
  by_cases z : partV (lineV a dg) i = 0
  · by_cases c : i < aC (ixV a dg)
    · exact absurd z (tabP hl h0 c).1
    · rw [if_pos (tabQ hl (by omega))]
  · rw [if_neg z] at h
    split
    · rfl
    · rw [if_neg (by split at h <;> omega)]
theorem pc_zero {a dg : Int} (hl : lineV a dg ≠ -1) {len i : Int} (h0 : 0 ≤ i) (h : pbV (lineV a dg) len i = -1) : ∀ n : Nat, (n : Int) ≤ 4 - i → pcV (lineV a dg) len n = 0
  | 0 => fun _ => rfl
  | n + 1 => fun hn => by
    unfold pcV
    rw [if_pos (pb_mono hl h0 (by omega) h), pc_zero hl h0 h n (by omega)]
    rfl
section MP
variable {d m : Nat} {h : jH} {Q : jO → jH → Prop} {e : Int} {x : jE}
theorem n_finds_loop {j : Int} (he : 0 ≤ e ∧ e < 201) (hj : 0 ≤ j) (n : Nat) : ∀ (i : Nat) (a : Int) (h1 : jH), (i : Int) + n = j → a = min (sumM (lineV x.1 x.2.1) i) x.2.2.1.length → mSh h1 m → mTb h1 m → mEl h1 m e x → (pbV (lineV x.1 x.2.1) x.2.2.1.length j = -1 → ∀ h', mFr m [830, 831] [] h1 h' → Q (.inl (some (jI 0))) h') → (pbV (lineV x.1 x.2.1) x.2.2.1.length j ≠ -1 → ∀ h', mFr m [830, 831] [] h1 h' → hI h' 830 m = pbV (lineV x.1 x.2.1) x.2.2.1.length j → hI h' 831 m = pzV (lineV x.1 x.2.1) x.2.2.1.length j → Q (.inl (some (jI 1))) h') → jWp d mX11_finds 13 [(0, jR m), (1, jI e), (2, jI j), (3, jI (hA h1 (m + 12) e)), (4, jI a), (5, jI i)] [] h1 Q := by
  induction n with
  | zero =>
    intro i a h1 hi ha H T E k0 k1
    have t := E.tab T
    have u := tabX E.1
    have s := sumM_rg (lineV x.1 x.2.1) i
    have e1 := E.2.2.2.1
    have ej : j = (i : Int) := by omega
    subst ej
    have l90 := E.2.1
    refine bX11_finds_13 (fun _ _ _ _ _ _ => ⟨H.k, ?_⟩)
    rw [H.r805, H.k805, H.n805, H.r815, H.k815, H.n815, H.r804, H.k804, H.n804, H.r809, H.k809, H.n809, t.2.2.2.2.2.1, t.2.2.2.2.2.2, e1]
    refine ⟨.refl _, t.1, by omega, fun _ => ⟨fun z => ?_, fun z => ⟨.refl _, by omega, by omega, fun _ => ⟨fun z2 => ?_, fun z2 => ?_⟩⟩⟩⟩
    · refine k0 ?_ h1 .rfl
      unfold pbV
      rw [if_pos (tabQ E.1 z)]
    · refine k0 ?_ h1 .rfl
      unfold pbV
      rw [Int.toNat_natCast]
      split
      · rfl
      · rw [if_neg (by omega)]
    · have p := tabP E.1 (j := i) (by omega) (by omega)
      have c := T.2.2.2.1 (aF (ixV x.1 x.2.1) + i) (by omega) (by omega)
      have mr := mostV_rg (p := partV (lineV x.1 x.2.1) i)
      have pb : pbV (lineV x.1 x.2.1) x.2.2.1.length i = a := by
        unfold pbV
        rw [if_neg p.1, Int.toNat_natCast, if_pos (by omega)]
        omega
      have pz : pzV (lineV x.1 x.2.1) x.2.2.1.length i = min (mostV (partV (lineV x.1 x.2.1) i)) (x.2.2.1.length - a) := by
        unfold pzV
        rw [pb, if_neg (by omega)]
      rw [c.2.2.1, ← p.2.2.1]
      rw [pb, pz] at k1
      have k1' := k1 (by omega)
      refine ⟨.refl _, by omega, fun _ => ⟨⟨by omega, by omega⟩, ⟨by omega, by omega⟩, .refl _, by omega, by omega, fun _ => ⟨fun z3 => ⟨fun z4 => absurd rfl z4, fun _ => ?_⟩, fun z3 => ⟨fun z4 => absurd rfl z4, fun _ => ?_⟩⟩⟩⟩
      · refine k1' _ ((mFr.rfl.sI (by decide)).sI (by decide)) ?_ ?_
        · simp [hI_sI]
        · simp [hI_sI]
          omega
      · refine k1' _ ((mFr.rfl.sI (by decide)).sI (by decide)) ?_ ?_
        · simp [hI_sI]
        · simp [hI_sI]
          omega
  | succ n ih =>
    intro i a h1 hi ha H T E k0 k1
    have t := E.tab T
    have u := tabX E.1
    have s := sumM_rg (lineV x.1 x.2.1) i
    have sm := sumM_mono (lineV x.1 x.2.1) i (j.toNat - i)
    rw [show i + (j.toNat - i) = j.toNat by omega] at sm
    have e1 := E.2.2.2.1
    have l90 := E.2.1
    refine bX11_finds_13 (fun _ _ _ _ _ _ => ⟨H.k, ?_⟩)
    rw [H.r805, H.k805, H.n805, H.r815, H.k815, H.n815, H.r804, H.k804, H.n804, H.r809, H.k809, H.n809, t.2.2.2.2.2.1, t.2.2.2.2.2.2, e1]
    refine ⟨.refl _, t.1, by omega, fun _ => ⟨fun z => ?_, fun z => ⟨.refl _, by omega, by omega, fun _ => ⟨fun z2 => ?_, fun z2 => ?_⟩⟩⟩⟩
    · refine k0 ?_ h1 .rfl
      unfold pbV
      rw [if_pos (tabQ E.1 (by omega))]
    · refine k0 ?_ h1 .rfl
      unfold pbV
      split
      · rfl
      · rw [if_neg (by omega)]
    · have p := tabP E.1 (j := i) (by omega) (by omega)
      have c := T.2.2.2.1 (aF (ixV x.1 x.2.1) + i) (by omega) (by omega)
      have mr := mostV_rg (p := partV (lineV x.1 x.2.1) i)
      have sn : sumM (lineV x.1 x.2.1) (i + 1) = sumM (lineV x.1 x.2.1) i + mostV (partV (lineV x.1 x.2.1) i) := rfl
      rw [c.2.2.1, ← p.2.2.1]
      have go : ∀ v : Int, v = min (mostV (partV (lineV x.1 x.2.1) i)) (x.2.2.1.length - a) → (j32 (hI (sI (sI h1 830 m a) 831 m v) 831 m) → j32 (a + hI (sI (sI h1 830 m a) 831 m v) 831 m) ∧ j32 ((i : Int) + 1) ∧ jWp d mX11_finds 13 [(0, jR m), (1, jI e), (2, jI j), (3, jI (hA h1 (m + 12) e)), (4, jI (a + hI (sI (sI h1 830 m a) 831 m v) 831 m)), (5, jI ((i : Int) + 1))] [] (sI (sI h1 830 m a) 831 m v) Q) := fun v ev _ => by
        have fr : mFr m [830, 831] [] h1 (sI (sI h1 830 m a) 831 m v) := (mFr.rfl.sI (by decide)).sI (by decide)
        rw [hI_sI, if_pos ⟨.refl _, .refl _⟩]
        refine ⟨⟨by omega, by omega⟩, ⟨by omega, by omega⟩, ?_⟩
        exact ih (i + 1) (a + v) _ (by omega) (by omega) (fr.sh H) (fr.tb T (by decide)) (E.to (fr.same (by decide) e)) (fun z h' p => k0 z h' (fr.trans p)) (fun z h' p => k1 z h' (fr.trans p))
      refine ⟨.refl _, by omega, fun _ => ⟨⟨by omega, by omega⟩, ⟨by omega, by omega⟩, .refl _, by omega, by omega, fun _ => ⟨fun z3 => ⟨fun z4 => go _ (by omega), fun z4 => by omega⟩, fun z3 => ⟨fun z4 => go _ (by omega), fun z4 => by omega⟩⟩⟩⟩
theorem n_finds {j : Int} (H : mSh h m) (T : mTb h m) (he : 0 ≤ e ∧ e < 201) (hj : 0 ≤ j) (E : mEl h m e x) (k0 : pbV (lineV x.1 x.2.1) x.2.2.1.length j = -1 → ∀ h', mFr m [830, 831] [] h h' → Q (.inl (some (jI 0))) h') (k1 : pbV (lineV x.1 x.2.1) x.2.2.1.length j ≠ -1 → ∀ h', mFr m [830, 831] [] h h' → hI h' 830 m = pbV (lineV x.1 x.2.1) x.2.2.1.length j → hI h' 831 m = pzV (lineV x.1 x.2.1) x.2.2.1.length j → Q (.inl (some (jI 1))) h') : jCall d mX11_finds [jR m, jI e, jI j] h Q := by
  refine bX11_finds (fun _ _ _ => ⟨H.k, ?_⟩)
  rw [H.r814, H.k814, H.n814]
  refine ⟨.refl _, by omega, by omega, fun _ => n_finds_loop he hj j.toNat 0 0 h (by omega) ?_ H T E k0 k1⟩
  simp only [sumM]
  omega
theorem n_sortOf {j : Int} (H : mSh h m) (T : mTb h m) (he : 0 ≤ e ∧ e < 201) (E : mEl h m e x) (hj : pbV (lineV x.1 x.2.1) x.2.2.1.length j ≠ -1) (k : Q (.inl (some (jI (psV (lineV x.1 x.2.1) j)))) h) : jCall d mX11_sortOf [jR m, jI e, jI j] h Q := by
  have t := E.tab T
  have u := tabX E.1
  have pr := (pbV_rg (ln := lineV x.1 x.2.1) (len := x.2.2.1.length) (j := j)).2.2 hj
  have hc : j < aC (ixV x.1 x.2.1) := by
    by_cases z : j < aC (ixV x.1 x.2.1)
    · exact z
    · unfold pbV at hj
      rw [if_pos (tabQ E.1 (by omega))] at hj
      exact absurd rfl hj
  have p := tabP E.1 pr.2.2.1 hc
  have c := T.2.2.2.1 (aF (ixV x.1 x.2.1) + j) (by omega) (by omega)
  refine bX11_sortOf (fun _ _ _ => ⟨H.k, ?_⟩)
  rw [H.r814, H.k814, H.n814, H.r804, H.k804, H.n804, H.r807, H.k807, H.n807, t.2.2.2.2.2.1, c.1, ← p.2.1]
  exact ⟨.refl _, by omega, by omega, fun _ => ⟨.refl _, t.1, by omega, fun _ => ⟨⟨by omega, by omega⟩, .refl _, by omega, by omega, fun _ => k⟩⟩⟩
theorem n_parts_loop (he : 0 ≤ e ∧ e < 201) (n : Nat) : ∀ (i : Nat) (h1 : jH), i + n = 4 → mSh h1 m → mTb h1 m → mEl h1 m e x → (∀ h', mFr m [830, 831] [] h1 h' → Q (.inl (some (jI (i + pcV (lineV x.1 x.2.1) x.2.2.1.length n)))) h') → jWp (d + 1) mX11_element 98 [(0, jR m), (1, jI e), (3, jI (hA h1 (m + 12) e)), (4, jI i)] [] h1 Q := by
  induction n with
  | zero =>
    intro i h1 hi H T E k
    have t := E.tab T
    have u := tabX E.1
    refine bX11_element_98 (fun _ _ _ _ => ⟨H.k, ?_⟩)
    rw [H.r805, H.k805, H.n805, t.2.2.2.2.2.2]
    refine ⟨.refl _, t.1, by omega, fun _ => ⟨fun z => ?_, fun z => by omega⟩⟩
    have := k h1 .rfl
    simpa [pcV] using this
  | succ n ih =>
    intro i h1 hi H T E k
    have t := E.tab T
    have u := tabX E.1
    have stop : pbV (lineV x.1 x.2.1) x.2.2.1.length i = -1 → ∀ h', mFr m [830, 831] [] h1 h' → Q (.inl (some (jI i))) h' := fun z h' p => by
      have := k h' p
      rw [pc_zero E.1 (i := i) (by omega) z (n + 1) (by omega), Int.add_zero] at this
      exact this
    refine bX11_element_98 (fun _ _ _ _ => ⟨H.k, ?_⟩)
    rw [H.r805, H.k805, H.n805, t.2.2.2.2.2.2]
    refine ⟨.refl _, t.1, by omega, fun _ => ⟨fun z => stop ?_ h1 .rfl, fun z => n_finds H T he (by omega) E (fun y h2 f2 => ⟨_, rfl, fun _ => stop y h2 f2, fun w => absurd rfl w⟩) (fun y h2 f2 _ _ => ⟨_, rfl, fun w => absurd w (by decide), fun _ => ⟨⟨by omega, by omega⟩, ?_⟩⟩)⟩⟩
    · unfold pbV
      rw [if_pos (tabQ E.1 z)]
    · have E2 := E.to (f2.same (by decide) e)
      rw [← (f2.a (a := 12) (by decide) e)]
      refine ih (i + 1) h2 (by omega) (f2.sh H) (f2.tb T (by decide)) E2 (fun h' p => ?_)
      have := k h' (f2.trans p)
      unfold pcV at this
      rw [if_neg (by rw [show (4 : Int) - ((n + 1 : Nat) : Int) = i by omega]; exact y)] at this
      rw [show (((i + 1 : Nat)) : Int) + pcV (lineV x.1 x.2.1) x.2.2.1.length n = i + (1 + pcV (lineV x.1 x.2.1) x.2.2.1.length n) by omega]
      exact this
theorem n_two {f : Nat} (H : mSh h m) (he : 0 ≤ e ∧ e < 201) (E : mEl h m e x) (hf : f + 2 ≤ x.2.2.1.length) (hd : digB x.2.2.1 f 2 = true) (k : Q (.inl (some (jI (twoAt x.2.2.1 f)))) h) : jCall d mX11_two [jR m, jI (90 * e + f)] h Q := by
  have g := hd
  rw [digB2 hf, Bool.and_eq_true] at g
  have g1 := isD_rg g.1
  have g2 := isD_rg g.2
  have l90 := E.2.1
  have v1 := E.2.2.2.2.1 f (by omega)
  have v2 := E.2.2.2.2.1 (f + 1) (by omega)
  unfold twoAt at k
  rw [if_pos hd, Int.toNat_natCast] at k
  refine bX11_two (fun _ _ => ⟨H.k, ?_⟩)
  rw [H.r817, H.k817, H.n817, v1, show 90 * e + (f : Int) + 1 = 90 * e + ((f + 1 : Nat) : Int) by omega, v2]
  refine ⟨.refl _, by omega, by omega, fun _ => ⟨⟨by omega, by omega⟩, ⟨by omega, by omega⟩, ⟨by omega, by omega⟩, by omega, by omega, fun _ => ⟨⟨by omega, by omega⟩, ⟨by omega, by omega⟩, ?_⟩⟩⟩
  rw [Int.mul_comm 10]
  exact k
theorem n_daysOf {y mo : Int} (hy : 0 ≤ y) (k : Q (.inl (some (jI (lastV y mo)))) h) : jCall d mX11_daysOf [jI y, jI mo] h Q := by
  have k' : ∀ v, v = lastV y mo → Q (.inl (some (jI v))) h := fun v e => e ▸ k
  have L : (y % 4 = 0 ∧ (y % 100 ≠ 0 ∨ y % 400 = 0)) → mo = 2 → 29 = lastV y mo := fun z z2 => by unfold lastV leapB; rw [if_pos z2, decide_eq_true z]; rfl
  have N : ¬ (y % 4 = 0 ∧ (y % 100 ≠ 0 ∨ y % 400 = 0)) → mo = 2 → 28 = lastV y mo := fun z z2 => by unfold lastV leapB; rw [if_pos z2, decide_eq_false z]; rfl
  refine bX11_daysOf (fun _ _ _ => ⟨fun z => ⟨fun z4 => k' _ ?_, fun z4 => ⟨fun z6 => k' _ ?_, fun z6 => ⟨fun z9 => k' _ ?_, fun z9 => ⟨fun z11 => k' _ ?_, fun z11 => k' _ ?_⟩⟩⟩⟩, fun z => ⟨hy, fun z4 => k' _ (N (by omega) z), fun z4 => ⟨fun z100 => k' _ (L (by omega) z), fun z100 => ⟨fun z400 => k' _ (N (by omega) z), fun z400 => k' _ (L (by omega) z)⟩⟩⟩⟩)
  · unfold lastV; rw [if_neg z, if_pos (by omega)]
  · unfold lastV; rw [if_neg z, if_pos (by omega)]
  · unfold lastV; rw [if_neg z, if_pos (by omega)]
  · unfold lastV; rw [if_neg z, if_neg (by omega)]
  · unfold lastV; rw [if_neg z, if_pos (by omega)]
theorem n_number_loop {pb pz : Nat} (H : mSh h m) (he : 0 ≤ e ∧ e < 201) (E : mEl h m e x) (h0 : hI h 830 m = pb) (h1 : hI h 831 m = pz) (hp : pz ≤ 18) (hl : pb + pz ≤ x.2.2.1.length) (hd : ∀ i : Nat, i < pz → isD (x.2.2.1.getD (pb + i) 0) = true) (n : Nat) : ∀ (i : Nat) (a : Int), i + n = pz → 0 ≤ a → a < ((10 ^ i : Nat) : Int) → Q (.inl (some (jL ((seg x.2.2.1 (pb + i) n).foldl (fun a c => a * 10 + (c - 48)) a)))) h → jWp (d + 1) mX11_number 61 [(0, jR m), (1, jI e), (3, jL a), (5, jI i)] [] h Q := by
  have l90 := E.2.1
  induction n with
  | zero =>
    intro i a hi _ _ k
    refine bX11_number_61 (fun _ _ _ _ => ⟨H.k, fun _ => ?_⟩)
    rw [h1]
    rw [seg_zero] at k
    exact ⟨fun _ => k, fun z => by omega⟩
  | succ n ih =>
    intro i a hi ha0 ha k
    have dg := isD_rg (hd i (by omega))
    have v := E.2.2.2.2.1 (pb + i) (by omega)
    rw [seg_cons (by omega)] at k
    simp only [List.foldl_cons] at k
    have p18 : (10 : Nat) ^ i ≤ 10 ^ 17 := Nat.pow_le_pow_right (by decide) (by omega)
    have ps : (10 : Nat) ^ (i + 1) = 10 ^ i * 10 := rfl
    rw [show (10 : Nat) ^ 17 = 100000000000000000 by decide] at p18
    generalize (10 : Nat) ^ i = q at *
    refine bX11_number_61 (fun _ _ _ _ => ⟨H.k, fun _ => ?_⟩)
    rw [h1, h0, H.r817, H.k817, H.n817, show 90 * e + (pb : Int) + (i : Int) = 90 * e + ((pb + i : Nat) : Int) by omega, v]
    refine ⟨fun z => by omega, fun z => ⟨⟨by omega, by omega⟩, ⟨by omega, by omega⟩, fun _ => ⟨⟨by omega, by omega⟩, ⟨by omega, by omega⟩, .refl _, by omega, by omega, fun _ => ⟨⟨by omega, by omega⟩, ⟨by omega, by omega⟩, ⟨by omega, by omega⟩, ?_⟩⟩⟩⟩
    rw [Int.mul_comm 10 a]
    refine ih (i + 1) _ (by omega) (by omega) (by rw [ps]; omega) ?_
    exact k
end MP
