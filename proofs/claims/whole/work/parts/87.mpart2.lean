/-! THE MODEL: element, letter, part, number, date -/
theorem mLst.el {h : jH} {m : Nat} {es : List jE} (L : mLst h m 0 es) {i : Int} (h0 : 0 ≤ i) (h1 : i < es.length) : mEl h m i (es.getD i.toNat dE) := by
  have := L.2.2 i.toNat (by omega)
  rw [show (20 * 0 + (i.toNat : Int)) = i by omega] at this
  exact this
theorem dat6_all : ∀ n : Nat, n < 65 → ∀ j : Nat, j < 4 → LN (8 * (n : Int) + 4 + j) / 1000 ≠ 4 ∨ mostV (LN (8 * (n : Int) + 4 + j)) = 6 := by decide +kernel
theorem dat6 {a dg j : Int} (h : psV (lineV a dg) j = 4) : mostV (partV (lineV a dg) j) = 6 := by
  have lr := lineV_rg a dg
  have z : partV (lineV a dg) j ≠ 0 := fun z => by unfold psV at h; rw [z] at h; omega
  obtain ⟨h0, h1, h2⟩ := partV_ln z
  have e : partV (lineV a dg) j = LN (8 * ((lineV a dg).toNat : Int) + 4 + (j.toNat : Int)) := by
    unfold partV cellV
    rw [if_pos ⟨h1, h2⟩, if_neg (by omega)]
    congr 1
    omega
  have := dat6_all (lineV a dg).toNat (by omega) j.toNat (by omega)
  unfold psV at h
  rw [e] at h ⊢
  omega
section MQ
variable {d m : Nat} {h : jH} {Q : jO → jH → Prop} {es : List jE}
theorem m_start (H : mSh h m) (T : mTb h m) (L : mLst h m 0 es) (fs : List Nat) (hf : 812 ∈ fs) (i : Int) {P : jO → jH → Prop} (k0 : (i < 0 ∨ es.length ≤ i) → ∀ h', mFr m fs [] h h' → hI h' 812 m = 1 → P (.inl (some (jI 1))) h') (k1 : 0 ≤ i → i < es.length → ∀ h', mFr m fs [] h h' → hI h' 812 m = 0 → mSh h' m → mTb h' m → mEl h' m i (es.getD i.toNat dE) → P (.inl (some (jI 0))) h') : hK h m = 9 ∧ jCall (d + 1) mX11_isOut [jR m, jI i] (sI h 812 m 0) P := by
  have f0 : mFr m [812] [] h (sI h 812 m 0) := mFr.rfl.sI (by decide)
  have f1 : mFr m fs [] h (sI h 812 m 0) := mFr.rfl.sI hf
  have L0 := f0.lst L (by decide)
  refine ⟨H.k, n_isOut (f0.sh H) L0 (fun z => k0 z _ (f1.sI hf) ?_) (fun z z2 => k1 z z2 _ f1 ?_ (f0.sh H) (f0.tb T (by decide)) (L0.el z z2))⟩
  · rw [hI_sI, if_pos ⟨.refl _, .refl _⟩]
  · rw [hI_sI, if_pos ⟨.refl _, .refl _⟩]
theorem n_element {i w : Int} (H : mSh h m) (T : mTb h m) (L : mLst h m 0 es) (k0 : (i < 0 ∨ es.length ≤ i) → ∀ h', mFr m [812, 830, 831] [] h h' → hI h' 812 m = 1 → Q (.inl (some (jI (-1)))) h') (k1 : 0 ≤ i → i < es.length → ∀ h', mFr m [812, 830, 831] [] h h' → hI h' 812 m = 0 → Q (.inl (some (jI (elemV (es.getD i.toNat dE) w)))) h') : jCall (d + 2) mX11_element [jR m, jI i, jI w] h Q := by
  have l20 := L.2.1
  refine bX11_element (fun _ _ _ => m_start H T L [812, 830, 831] (by decide) i (fun z h1 f1 g1 => ⟨_, rfl, fun w => absurd w (by decide), fun _ => k0 z h1 f1 g1⟩) (fun z z2 h1 f1 g1 H1 T1 E => ⟨_, rfl, fun _ => ⟨H1.k, ?_⟩, fun w => absurd rfl w⟩))
  have kk := k1 z z2
  generalize es.getD i.toNat dE = y at *
  have t := E.tab T1
  rw [H1.r814, H1.k814, H1.n814, H1.r803, H1.k803, H1.n803, H1.r815, H1.k815, H1.n815, H1.r802, H1.k802, H1.n802, H1.r801, H1.k801, H1.n801, t.2.2.1, t.2.2.2.1, t.2.2.2.2.1, E.2.2.2.1]
  unfold elemV at kk
  refine ⟨.refl _, z, by omega, fun _ => ⟨fun w0 => ⟨fun w1 => ⟨fun w2 => ⟨fun w4 => ⟨fun w5 => ⟨fun w3 => ?_, fun w3 => ?_⟩, fun w5 => n_fixE H1 T1 E ⟨_, rfl, fun v => ?_, fun v => ?_⟩⟩, fun w4 => ⟨.refl _, t.1, by omega, fun _ => ?_⟩⟩, fun w2 => ⟨.refl _, by omega, fun _ => ?_⟩⟩, fun w1 => ⟨.refl _, t.1, by omega, fun _ => ?_⟩⟩, fun w0 => ⟨.refl _, t.1, by omega, fun _ => ?_⟩⟩⟩
  · subst w3
    rw [if_neg (by decide), if_neg (by decide), if_neg (by decide), if_pos rfl] at kk
    refine n_parts_loop (by omega) 4 0 h1 rfl H1 T1 E (fun h2 f2 => ?_)
    have := kk h2 (f1.trans (f2.mono (by decide) (by decide))) ((f2.i (by decide)).trans g1)
    rw [show ((0 : Nat) : Int) + pcV (lineV y.1 y.2.1) y.2.2.1.length 4 = pcV (lineV y.1 y.2.1) y.2.2.1.length 4 by omega]
    exact this
  · rw [if_neg w0, if_neg w1, if_neg w2, if_neg w3, if_neg w4, if_neg w5] at kk
    exact kk h1 f1 g1
  · subst w5
    have := kk h1 f1 g1
    rw [if_neg (by decide), if_neg (by decide), if_neg (by decide), if_neg (by decide), if_neg (by decide), if_pos rfl] at this
    rw [show fixV y.1 y.2.1 = false from (b2i_eq _).mp v] at this
    exact this
  · subst w5
    have := kk h1 f1 g1
    rw [if_neg (by decide), if_neg (by decide), if_neg (by decide), if_neg (by decide), if_neg (by decide), if_pos rfl] at this
    rw [show fixV y.1 y.2.1 = true from (b2i_ne _).mp v] at this
    exact this
  · subst w4; exact kk h1 f1 g1
  · subst w2; exact kk h1 f1 g1
  · subst w1; exact kk h1 f1 g1
  · subst w0; exact kk h1 f1 g1
theorem n_letter {i j : Int} (H : mSh h m) (T : mTb h m) (L : mLst h m 0 es) (k0 : (i < 0 ∨ es.length ≤ i) → ∀ h', mFr m [812, 830, 831] [] h h' → hI h' 812 m = 1 → Q (.inl (some (jI (-1)))) h') (k1 : 0 ≤ i → i < es.length → ∀ h', mFr m [812, 830, 831] [] h h' → hI h' 812 m = 0 → Q (.inl (some (jI (lAt (es.getD i.toNat dE).2.2.1 j)))) h') : jCall (d + 2) mX11_letter [jR m, jI i, jI j] h Q := by
  have l20 := L.2.1
  refine bX11_letter (fun _ _ _ => m_start H T L [812, 830, 831] (by decide) i (fun z h1 f1 g1 => ⟨_, rfl, fun w => absurd w (by decide), fun _ => k0 z h1 f1 g1⟩) (fun z z2 h1 f1 g1 H1 T1 E => ⟨_, rfl, fun _ => ?_, fun w => absurd rfl w⟩))
  have kk := k1 z z2 h1 f1 g1
  generalize es.getD i.toNat dE = y at *
  have l90 := E.2.1
  unfold lAt at kk
  refine ⟨fun w => ?_, fun w => ⟨H1.k, ?_⟩⟩
  · rw [if_neg (by omega)] at kk; exact kk
  · rw [H1.r815, H1.k815, H1.n815, H1.r817, H1.k817, H1.n817, E.2.2.2.1]
    refine ⟨.refl _, z, by omega, fun _ => ⟨fun w2 => ?_, fun w2 => ?_⟩⟩
    · have v := E.2.2.2.2.1 j.toNat (by omega)
      rw [show 90 * i + (j.toNat : Int) = 90 * i + j by omega] at v
      rw [v]
      rw [if_pos (by omega)] at kk
      exact ⟨⟨by omega, by omega⟩, ⟨by omega, by omega⟩, .refl _, by omega, by omega, fun _ => kk⟩
    · rw [if_neg (by omega)] at kk; exact kk
theorem n_part {i j w : Int} (H : mSh h m) (T : mTb h m) (L : mLst h m 0 es) (k0 : (i < 0 ∨ es.length ≤ i) → ∀ h', mFr m [812, 830, 831] [] h h' → hI h' 812 m = 1 → Q (.inl (some (jI (-1)))) h') (k1 : 0 ≤ i → i < es.length → ∀ h', mFr m [812, 830, 831] [] h h' → hI h' 812 m = 0 → Q (.inl (some (jI (partW (es.getD i.toNat dE) j w)))) h') : jCall (d + 2) mX11_part [jR m, jI i, jI j, jI w] h Q := by
  have l20 := L.2.1
  refine bX11_part (fun _ _ _ _ => m_start H T L [812, 830, 831] (by decide) i (fun z h1 f1 g1 => ⟨_, rfl, fun w => absurd w (by decide), fun _ => k0 z h1 f1 g1⟩) (fun z z2 h1 f1 g1 H1 T1 E => ⟨_, rfl, fun _ => ?_, fun w => absurd rfl w⟩))
  have kk := k1 z z2
  generalize es.getD i.toNat dE = y at *
  unfold partW at kk
  have no : pbV (lineV y.1 y.2.1) y.2.2.1.length j = -1 → ∀ h', mFr m [812, 830, 831] [] h h' → hI h' 812 m = 0 → Q (.inl (some (jI (-1)))) h' := fun v h' p g => by
    have := kk h' p g
    rw [if_pos v] at this
    exact this
  refine ⟨fun w => no ?_ h1 f1 g1, fun w => ⟨H1.k, n_finds H1 T1 (by omega) (by omega) E (fun v h2 f2 => ⟨_, rfl, fun y => absurd rfl y, fun _ => no v h2 (f1.trans (f2.mono (by decide) (by decide))) ((f2.i (by decide)).trans g1)⟩) (fun v h2 f2 b0 b1 => ⟨_, rfl, fun _ => ?_, fun y => absurd y (by decide)⟩)⟩⟩
  · have := (pbV_rg (ln := lineV y.1 y.2.1) (len := y.2.2.1.length) (j := j)).2.2
    omega
  · have k2 := kk h2 (f1.trans (f2.mono (by decide) (by decide))) ((f2.i (by decide)).trans g1)
    rw [if_neg v] at k2
    have H2 := f2.sh H1
    rw [b0, b1]
    refine ⟨fun w0 => ⟨fun w1 => ⟨fun w2 => ?_, fun w2 => ⟨H2.k, fun _ => ?_⟩⟩, fun w1 => ⟨H2.k, fun _ => ?_⟩⟩, fun w0 => ⟨H2.k, n_sortOf H2 (f2.tb T1 (by decide)) (by omega) (E.to (f2.same (by decide) i)) v ⟨_, rfl, ?_⟩⟩⟩
    · rw [if_neg w0, if_neg w1, if_neg w2] at k2; exact k2
    · subst w2; exact k2
    · subst w1; exact k2
    · subst w0; exact k2
theorem n_number {i j : Int} (ok : ∀ y ∈ es, okE y) (H : mSh h m) (T : mTb h m) (L : mLst h m 0 es) (k0 : (i < 0 ∨ es.length ≤ i) → ∀ h', mFr m [812, 830, 831] [] h h' → hI h' 812 m = 1 → Q (.inl (some (jL (-1)))) h') (k2 : 0 ≤ i → i < es.length → pbV (lineV (es.getD i.toNat dE).1 (es.getD i.toNat dE).2.1) (es.getD i.toNat dE).2.2.1.length j = -1 → ∀ h', mFr m [812, 830, 831] [] h h' → hI h' 812 m = 2 → Q (.inl (some (jL (-1)))) h') (k1 : 0 ≤ i → i < es.length → pbV (lineV (es.getD i.toNat dE).1 (es.getD i.toNat dE).2.1) (es.getD i.toNat dE).2.2.1.length j ≠ -1 → ∀ h', mFr m [812, 830, 831] [] h h' → hI h' 812 m = 0 → Q (.inl (some (jL (nmbV (es.getD i.toNat dE) j)))) h') : jCall (d + 2) mX11_number [jR m, jI i, jI j] h Q := by
  have l20 := L.2.1
  refine bX11_number (fun _ _ _ => m_start H T L [812, 830, 831] (by decide) i (fun z h1 f1 g1 => ⟨_, rfl, fun w => absurd w (by decide), fun _ => k0 z h1 f1 g1⟩) (fun z z2 h1 f1 g1 H1 T1 E => ⟨_, rfl, fun _ => ?_, fun w => absurd rfl w⟩))
  have kk := k1 z z2
  have k3 := k2 z z2
  have oy := ok _ (getD_mem (es := es) (k := i.toNat) (by omega))
  generalize es.getD i.toNat dE = y at *
  have pr := (pbV_rg (ln := lineV y.1 y.2.1) (len := y.2.2.1.length) (j := j)).2.2
  refine ⟨fun w => ⟨H1.k, n_throwing H1 ⟨_, rfl, fun v => absurd v (by decide), fun _ => k3 (by omega) _ (f1.sI (by decide)) ?_⟩⟩, fun w => ⟨H1.k, n_finds H1 T1 (by omega) (by omega) E (fun v h2 f2 => ⟨_, rfl, fun y => absurd rfl y, fun _ => ⟨(f2.sh H1).k, n_throwing (f2.sh H1) ⟨_, rfl, fun v => absurd v (by decide), fun _ => k3 v _ ((f1.trans (f2.mono (by decide) (by decide))).sI (by decide)) ?_⟩⟩⟩) (fun v h2 f2 b0 b1 => ⟨_, rfl, fun _ => ⟨(f2.sh H1).k, ?_⟩, fun y => absurd y (by decide)⟩)⟩⟩
  · rw [hI_sI, if_pos ⟨.refl _, .refl _⟩]
  · rw [hI_sI, if_pos ⟨.refl _, .refl _⟩]
  · have H2 := f2.sh H1
    have E2 := E.to (f2.same (by decide) i)
    have k4 := kk v h2 (f1.trans (f2.mono (by decide) (by decide))) ((f2.i (by decide)).trans g1)
    unfold nmbV at k4
    have lr := lineV_rg y.1 y.2.1
    have p := pr v
    refine n_sortOf H2 (f2.tb T1 (by decide)) (by omega) E2 v ⟨_, rfl, fun s => ?_, fun s => ?_⟩
    · have m18 := most18V lr.2 s
      have dg := oy.2.2.1 j v s
      rw [if_neg s, if_pos dg] at k4
      have ez : pzV (lineV y.1 y.2.1) y.2.2.1.length j = min (mostV (partV (lineV y.1 y.2.1) j)) (y.2.2.1.length - pbV (lineV y.1 y.2.1) y.2.2.1.length j) := by
        unfold pzV
        rw [if_neg v]
      have mr := mostV_rg (p := partV (lineV y.1 y.2.1) j)
      generalize hb : pbV (lineV y.1 y.2.1) y.2.2.1.length j = b at *
      generalize hz : pzV (lineV y.1 y.2.1) y.2.2.1.length j = q at *
      have eb : b = (b.toNat : Int) := by omega
      have eq : q = (q.toNat : Int) := by omega
      rw [eb, eq] at dg
      have ds := (digB_iff (l := y.2.2.1) (f := b.toNat) (n := q.toNat) (by omega)).mp dg
      refine n_number_loop (pb := b.toNat) (pz := q.toNat) H2 (by omega) E2 (by omega) (by omega) (by omega) (by omega) ds q.toNat 0 0 (by omega) (by omega) (by decide) ?_
      exact k4
    · rw [if_pos s] at k4
      exact k4
theorem n_date {i j w : Int} (ok : ∀ y ∈ es, okE y) (H : mSh h m) (T : mTb h m) (L : mLst h m 0 es) (k0 : (i < 0 ∨ es.length ≤ i) → ∀ h', mFr m [812, 830, 831] [] h h' → hI h' 812 m = 1 → Q (.inl (some (jI (-1)))) h') (k2 : 0 ≤ i → i < es.length → (pbV (lineV (es.getD i.toNat dE).1 (es.getD i.toNat dE).2.1) (es.getD i.toNat dE).2.2.1.length j = -1 ∨ psV (lineV (es.getD i.toNat dE).1 (es.getD i.toNat dE).2.1) j ≠ 4) → ∀ h', mFr m [812, 830, 831] [] h h' → hI h' 812 m = 2 → Q (.inl (some (jI (-1)))) h') (k1 : 0 ≤ i → i < es.length → pbV (lineV (es.getD i.toNat dE).1 (es.getD i.toNat dE).2.1) (es.getD i.toNat dE).2.2.1.length j ≠ -1 → psV (lineV (es.getD i.toNat dE).1 (es.getD i.toNat dE).2.1) j = 4 → ∀ h', mFr m [812, 830, 831] [] h h' → hI h' 812 m = 0 → Q (.inl (some (jI (datV (es.getD i.toNat dE) j w)))) h') : jCall (d + 2) mX11_date [jR m, jI i, jI j, jI w] h Q := by
  have l20 := L.2.1
  refine bX11_date (fun _ _ _ _ => m_start H T L [812, 830, 831] (by decide) i (fun z h1 f1 g1 => ⟨_, rfl, fun w => absurd w (by decide), fun _ => k0 z h1 f1 g1⟩) (fun z z2 h1 f1 g1 H1 T1 E => ⟨_, rfl, fun _ => ?_, fun w => absurd rfl w⟩))
  have kk := k1 z z2
  have k3 := k2 z z2
  have oy := ok _ (getD_mem (es := es) (k := i.toNat) (by omega))
  generalize es.getD i.toNat dE = y at *
  have l90 := E.2.1
  have pr := (pbV_rg (ln := lineV y.1 y.2.1) (len := y.2.2.1.length) (j := j)).2.2
  refine ⟨fun w => ⟨H1.k, n_throwing H1 ⟨_, rfl, fun v => absurd v (by decide), fun _ => k3 (by omega) _ (f1.sI (by decide)) ?_⟩⟩, fun wj => ⟨H1.k, n_finds H1 T1 (by omega) (by omega) E (fun v h2 f2 => ⟨_, rfl, fun _ => ⟨(f2.sh H1).k, n_throwing (f2.sh H1) ⟨_, rfl, fun v => absurd v (by decide), fun _ => k3 (Or.inl v) _ ((f1.trans (f2.mono (by decide) (by decide))).sI (by decide)) ?_⟩⟩, fun y => absurd rfl y⟩) (fun v h2 f2 b0 b1 => ⟨_, rfl, fun y => absurd y (by decide), fun _ => ⟨(f2.sh H1).k, ?_⟩⟩)⟩⟩
  · rw [hI_sI, if_pos ⟨.refl _, .refl _⟩]
  · rw [hI_sI, if_pos ⟨.refl _, .refl _⟩]
  · have H2 := f2.sh H1
    have E2 := E.to (f2.same (by decide) i)
    have f12 : mFr m [812, 830, 831] [] h h2 := f1.trans (f2.mono (by decide) (by decide))
    refine n_sortOf H2 (f2.tb T1 (by decide)) (by omega) E2 v ⟨_, rfl, fun s => ?_, fun s => ⟨H2.k, n_throwing H2 ⟨_, rfl, fun v => absurd v (by decide), fun _ => k3 (Or.inr s) _ (f12.sI (by decide)) ?_⟩⟩⟩
    · have k4 := kk v s h2 f12 ((f2.i (by decide)).trans g1)
      have dg := oy.2.2.1 j v (by rw [s]; decide)
      have b6 := oy.2.2.2.1 j v s
      have ey := E2.2.2.2.2.2 j s v
      have p := pr v
      have eyr : yrP y j = if pbV (lineV y.1 y.2.1) y.2.2.1.length j = 0 then 0 else 1 := rfl
      have ez : pzV (lineV y.1 y.2.1) y.2.2.1.length j = min (mostV (partV (lineV y.1 y.2.1) j)) (y.2.2.1.length - pbV (lineV y.1 y.2.1) y.2.2.1.length j) := by
        unfold pzV
        rw [if_neg v]
      have m6 := dat6 s
      have t0 := twoAt_rg (s := y.2.2.1) (f := pbV (lineV y.1 y.2.1) y.2.2.1.length j)
      unfold datV at k4
      rw [eyr] at ey
      generalize hb : pbV (lineV y.1 y.2.1) y.2.2.1.length j = b at *
      generalize hz : pzV (lineV y.1 y.2.1) y.2.2.1.length j = q at *
      have eb : b = (b.toNat : Int) := by omega
      have eq : q = ((6 : Nat) : Int) := by omega
      rw [eb, eq] at dg
      have ds := (digB_iff (l := y.2.2.1) (f := b.toNat) (n := 6) (by omega)).mp dg
      have d2 : digB y.2.2.1 ((b.toNat + 2 : Nat) : Int) (2 : Nat) = true := (digB_iff (by omega)).mpr (fun i hi => by rw [Nat.add_assoc]; exact ds (2 + i) (by omega))
      have d4 : digB y.2.2.1 ((b.toNat + 4 : Nat) : Int) (2 : Nat) = true := (digB_iff (by omega)).mpr (fun i hi => by rw [Nat.add_assoc]; exact ds (4 + i) (by omega))
      have y0 : 0 ≤ yearV (twoAt y.2.2.1 b) y.2.2.2 := by have := oy.2.2.2.2; unfold yearV; omega
      have tail : ∀ c : Int, c = (if b = 0 then 0 else 1) → jWp (d + 2) mX11_date 78 [(0, jR m), (3, jI w), (4, jI (90 * i + b))] [jI c, jI (2 * i), jR (m + 14)] h2 Q := fun c ec => by
        subst ec
        have c01 : (if b = 0 then 0 else 1 : Int) = 0 ∨ (if b = 0 then 0 else 1 : Int) = 1 := by split <;> simp
        refine bX11_date_78 (fun _ _ _ => ?_)
        rw [H2.k816, H2.n816, ey]
        refine ⟨⟨by omega, by omega⟩, .refl _, by omega, by omega, fun _ => ⟨⟨by omega, by omega⟩, H2.k, ?_⟩⟩
        rw [show 90 * i + b + 2 = 90 * i + ((b.toNat + 2 : Nat) : Int) by omega, show 90 * i + b + 4 = 90 * i + ((b.toNat + 4 : Nat) : Int) by omega]
        rw [show b + 2 = ((b.toNat + 2 : Nat) : Int) by omega, show b + 4 = ((b.toNat + 4 : Nat) : Int) by omega] at k4
        refine n_two H2 (by omega) E2 (by omega) d2 ⟨_, rfl, ⟨by omega, by omega⟩, H2.k, n_two H2 (by omega) E2 (by omega) d4 ⟨_, rfl, fun w0 => ⟨fun w1 => ⟨fun w2 => ⟨fun u => ?_, fun u => n_daysOf y0 ⟨_, rfl, ?_⟩⟩, fun w2 => ?_⟩, fun w1 => ?_⟩, fun w0 => ?_⟩⟩
        · subst w2
          rw [if_neg (by decide), if_neg (by decide), if_pos rfl, if_neg u] at k4
          exact bX11_date_141 (fun _ => k4)
        · subst w2
          rw [if_neg (by decide), if_neg (by decide), if_pos rfl, if_pos u] at k4
          exact bX11_date_141 (fun _ => k4)
        · rw [if_neg w0, if_neg w1, if_neg w2] at k4; exact k4
        · subst w1; exact k4
        · subst w0; exact k4
      refine bX11_date_48 (fun _ _ _ => ⟨⟨by omega, by omega⟩, H2.k, fun _ => ?_⟩)
      rw [b0, H2.r816]
      refine ⟨⟨by omega, by omega⟩, ⟨by omega, by omega⟩, fun q => tail 1 (by rw [if_neg q]), fun q => tail 0 (by rw [if_pos q])⟩
    · rw [hI_sI, if_pos ⟨.refl _, .refl _⟩]
end MQ
