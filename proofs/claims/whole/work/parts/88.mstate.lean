/-! THE MODEL: its state, and what changes it simply -/
def mRow (h : jH) (m c a N : Nat) (l : List Int) : Prop := hI h c m = l.length ∧ l.length ≤ N ∧ ∀ i : Nat, i < l.length → hA h (m + a) (i : Int) = l.getD i 0
/-- a byte, as the machine has it -/
def sb (c : Int) : Int := if c < 128 then c else c - 256
def isMD (h : jH) (m : Nat) (s : jP) : Prop := mSh h m ∧ mTb h m ∧ mRow h m 819 16 600 (s.1.1.map sb) ∧ mRow h m 833 20 3720 s.1.2.1 ∧ mRow h m 843 27 2000 s.1.2.2.1 ∧ mRow h m 838 23 100 s.1.2.2.2 ∧ mLs h m s.2.1.1 s.2.1.2 ∧ (hI h 822 m = s.2.2.1.1 ∧ hI h 823 m = s.2.2.1.2.1 ∧ hI h 824 m = s.2.2.1.2.2) ∧ (hI h 849 m = s.2.2.2.1 ∧ hI h 850 m = s.2.2.2.2.1 ∧ hI h 851 m = s.2.2.2.2.2)
theorem mFr.row {m c a N : Nat} {fs as : List Nat} {h h1 : jH} {l : List Int} (p : mFr m fs as h h1) (R : mRow h m c a N l) (hc : c ∉ fs) (ha : a ∉ as) : mRow h1 m c a N l :=
  ⟨(p.i hc).trans R.1, R.2.1, fun i hi => (p.a ha _).trans (R.2.2 i hi)⟩
theorem mFr.ls {m : Nat} {fs as : List Nat} {h h1 : jH} {es : List jE} {sh : Nat → List jE} (p : mFr m fs as h h1) (L : mLs h m es sh) (n : ∀ a ∈ as, a < 11 ∨ 15 < a) : mLs h1 m es sh := ⟨p.lst L.1 n, fun i hi => p.lst (L.2 i hi) n⟩
theorem isMD.keep {fs as : List Nat} {h h1 : jH} {m : Nat} {s : jP} (H : isMD h m s) (f : mFr m fs as h h1) : mSh h1 m ∧ (mNt fs as → mTb h1 m) ∧ (819 ∉ fs ∧ 16 ∉ as → mRow h1 m 819 16 600 (s.1.1.map sb)) ∧ (833 ∉ fs ∧ 20 ∉ as → mRow h1 m 833 20 3720 s.1.2.1) ∧ (843 ∉ fs ∧ 27 ∉ as → mRow h1 m 843 27 2000 s.1.2.2.1) ∧ (838 ∉ fs ∧ 23 ∉ as → mRow h1 m 838 23 100 s.1.2.2.2) ∧ ((∀ a ∈ as, a < 11 ∨ 15 < a) → mLs h1 m s.2.1.1 s.2.1.2) ∧ (822 ∉ fs ∧ 823 ∉ fs ∧ 824 ∉ fs → hI h1 822 m = s.2.2.1.1 ∧ hI h1 823 m = s.2.2.1.2.1 ∧ hI h1 824 m = s.2.2.1.2.2) ∧ (849 ∉ fs ∧ 850 ∉ fs ∧ 851 ∉ fs → hI h1 849 m = s.2.2.2.1 ∧ hI h1 850 m = s.2.2.2.2.1 ∧ hI h1 851 m = s.2.2.2.2.2) := by
  obtain ⟨q1, q2, q3, q4, q5, q6, q7, q8, q9⟩ := H
  exact ⟨f.sh q1, fun z => f.tb q2 z, fun z => f.row q3 z.1 z.2, fun z => f.row q4 z.1 z.2, fun z => f.row q5 z.1 z.2, fun z => f.row q6 z.1 z.2, fun z => f.ls q7 z, fun z => ⟨(f.i z.1).trans q8.1, (f.i z.2.1).trans q8.2.1, (f.i z.2.2).trans q8.2.2⟩, fun z => ⟨(f.i z.1).trans q9.1, (f.i z.2.1).trans q9.2.1, (f.i z.2.2).trans q9.2.2⟩⟩
/-- only what no call shows changes -/
theorem md_same {fs as : List Nat} {h h1 : jH} {m : Nat} {s : jP} (H : isMD h m s) (f : mFr m fs as h h1) (n : mNt fs as) (c : (819 ∉ fs ∧ 16 ∉ as) ∧ (833 ∉ fs ∧ 20 ∉ as) ∧ (843 ∉ fs ∧ 27 ∉ as) ∧ (838 ∉ fs ∧ 23 ∉ as) ∧ (∀ a ∈ as, a < 11 ∨ 15 < a) ∧ (822 ∉ fs ∧ 823 ∉ fs ∧ 824 ∉ fs) ∧ (849 ∉ fs ∧ 850 ∉ fs ∧ 851 ∉ fs)) : isMD h1 m s := by
  obtain ⟨k1, k2, k3, k4, k5, k6, k7, k8, k9⟩ := H.keep f
  exact ⟨k1, k2 n, k3 c.1, k4 c.2.1, k5 c.2.2.1, k6 c.2.2.2.1, k7 c.2.2.2.2.1, k8 c.2.2.2.2.2.1, k9 c.2.2.2.2.2.2⟩
theorem md_tape {fs as : List Nat} {h h1 : jH} {m : Nat} {s : jP} (H : isMD h m s) (f : mFr m fs as h h1) (n : mNt fs as) (c : (833 ∉ fs ∧ 20 ∉ as) ∧ (843 ∉ fs ∧ 27 ∉ as) ∧ (838 ∉ fs ∧ 23 ∉ as) ∧ (∀ a ∈ as, a < 11 ∨ 15 < a) ∧ (822 ∉ fs ∧ 823 ∉ fs ∧ 824 ∉ fs) ∧ (849 ∉ fs ∧ 850 ∉ fs ∧ 851 ∉ fs)) {l : List Int} (R : mRow h1 m 819 16 600 (l.map sb)) : isMD h1 m ((l, s.1.2), s.2) := by
  obtain ⟨k1, k2, k3, k4, k5, k6, k7, k8, k9⟩ := H.keep f
  exact ⟨k1, k2 n, R, k4 c.1, k5 c.2.1, k6 c.2.2.1, k7 c.2.2.2.1, k8 c.2.2.2.2.1, k9 c.2.2.2.2.2⟩
theorem md_out {fs as : List Nat} {h h1 : jH} {m : Nat} {s : jP} (H : isMD h m s) (f : mFr m fs as h h1) (n : mNt fs as) (c : (819 ∉ fs ∧ 16 ∉ as) ∧ (843 ∉ fs ∧ 27 ∉ as) ∧ (838 ∉ fs ∧ 23 ∉ as) ∧ (∀ a ∈ as, a < 11 ∨ 15 < a) ∧ (822 ∉ fs ∧ 823 ∉ fs ∧ 824 ∉ fs) ∧ (849 ∉ fs ∧ 850 ∉ fs ∧ 851 ∉ fs)) {l : List Int} (R : mRow h1 m 833 20 3720 l) : isMD h1 m ((s.1.1, l, s.1.2.2), s.2) := by
  obtain ⟨k1, k2, k3, k4, k5, k6, k7, k8, k9⟩ := H.keep f
  exact ⟨k1, k2 n, k3 c.1, R, k5 c.2.1, k6 c.2.2.1, k7 c.2.2.2.1, k8 c.2.2.2.2.1, k9 c.2.2.2.2.2⟩
theorem md_strip {fs as : List Nat} {h h1 : jH} {m : Nat} {s : jP} (H : isMD h m s) (f : mFr m fs as h h1) (n : mNt fs as) (c : (819 ∉ fs ∧ 16 ∉ as) ∧ (833 ∉ fs ∧ 20 ∉ as) ∧ (838 ∉ fs ∧ 23 ∉ as) ∧ (∀ a ∈ as, a < 11 ∨ 15 < a) ∧ (822 ∉ fs ∧ 823 ∉ fs ∧ 824 ∉ fs) ∧ (849 ∉ fs ∧ 850 ∉ fs ∧ 851 ∉ fs)) {l : List Int} (R : mRow h1 m 843 27 2000 l) : isMD h1 m ((s.1.1, s.1.2.1, l, s.1.2.2.2), s.2) := by
  obtain ⟨k1, k2, k3, k4, k5, k6, k7, k8, k9⟩ := H.keep f
  exact ⟨k1, k2 n, k3 c.1, k4 c.2.1, R, k6 c.2.2.1, k7 c.2.2.2.1, k8 c.2.2.2.2.1, k9 c.2.2.2.2.2⟩
theorem md_symbol {fs as : List Nat} {h h1 : jH} {m : Nat} {s : jP} (H : isMD h m s) (f : mFr m fs as h h1) (n : mNt fs as) (c : (819 ∉ fs ∧ 16 ∉ as) ∧ (833 ∉ fs ∧ 20 ∉ as) ∧ (843 ∉ fs ∧ 27 ∉ as) ∧ (∀ a ∈ as, a < 11 ∨ 15 < a) ∧ (822 ∉ fs ∧ 823 ∉ fs ∧ 824 ∉ fs) ∧ (849 ∉ fs ∧ 850 ∉ fs ∧ 851 ∉ fs)) {l : List Int} (R : mRow h1 m 838 23 100 l) : isMD h1 m ((s.1.1, s.1.2.1, s.1.2.2.1, l), s.2) := by
  obtain ⟨k1, k2, k3, k4, k5, k6, k7, k8, k9⟩ := H.keep f
  exact ⟨k1, k2 n, k3 c.1, k4 c.2.1, k5 c.2.2.1, R, k7 c.2.2.2.1, k8 c.2.2.2.2.1, k9 c.2.2.2.2.2⟩
theorem md_lists {fs as : List Nat} {h h1 : jH} {m : Nat} {s : jP} (H : isMD h m s) (f : mFr m fs as h h1) (n : mNt fs as) (c : (819 ∉ fs ∧ 16 ∉ as) ∧ (833 ∉ fs ∧ 20 ∉ as) ∧ (843 ∉ fs ∧ 27 ∉ as) ∧ (838 ∉ fs ∧ 23 ∉ as) ∧ (822 ∉ fs ∧ 823 ∉ fs ∧ 824 ∉ fs) ∧ (849 ∉ fs ∧ 850 ∉ fs ∧ 851 ∉ fs)) {es : List jE} {sh : Nat → List jE} (R : mLs h1 m es sh) : isMD h1 m (s.1, (es, sh), s.2.2) := by
  obtain ⟨k1, k2, k3, k4, k5, k6, k7, k8, k9⟩ := H.keep f
  exact ⟨k1, k2 n, k3 c.1, k4 c.2.1, k5 c.2.2.1, k6 c.2.2.2.1, R, k8 c.2.2.2.2.1, k9 c.2.2.2.2.2⟩
theorem sbw (x : Int) : (x + 128) % 256 - 128 = sb (x % 256) := by unfold sb; split <;> omega
theorem sb_id {c : Int} (h : c < 128) : sb c = c := if_pos h
theorem map_getD (l : List Int) (f : Int → Int) {i : Nat} (h : i < l.length) : (l.map f).getD i 0 = f (l.getD i 0) := by
  rw [List.getD_eq_getElem?_getD, List.getD_eq_getElem?_getD, List.getElem?_map, List.getElem?_eq_getElem h]
  rfl
theorem map_sb {l : List Int} (h : ∀ x ∈ l, x < 128) : l.map sb = l := by
  conv => rhs; rw [← List.map_id l]
  exact List.map_congr_left (fun x hx => sb_id (h x hx))
theorem mRow.len {h : jH} {m c a N : Nat} {l : List Int} (R : mRow h m c a N l) : hI h c m = l.length := R.1
theorem mRow.get {h : jH} {m c a N : Nat} {l : List Int} (R : mRow h m c a N l) {i : Int} (h0 : 0 ≤ i) (h1 : i < l.length) : hA h (m + a) i = l.getD i.toNat 0 := by
  have := R.2.2 i.toNat (by omega)
  rwa [show (i.toNat : Int) = i by omega] at this
section MS
variable {d m : Nat} {h : jH} {Q : jO → jH → Prop} {s : jP}
theorem md_0 (H : isMD h m s) (c : Int) : isMD (sI h 812 m c) m s := md_same H (mFr.rfl.sI (fs := [812]) (as := []) (by decide)) (by decide) (by decide)
theorem v_end {n : Int} (H : isMD h m s) (k : ∀ h', mFr m [812, 819] [] h h' → isMD h' m (endV s n).2 → Q (.inl (some (jI (endV s n).1))) h') : jCall d mX11_end [jR m, jI n] h Q := by
  have R := H.2.2.1
  have f0 : mFr m [812, 819] [] h (sI h 812 m 0) := mFr.rfl.sI (by decide)
  have l6 := R.2.1
  have ll : (s.1.1.map sb).length = s.1.1.length := List.length_map _
  unfold endV at k
  have no : ¬ (0 ≤ n ∧ n ≤ s.1.1.length) → Q (.inl (some (jI 0))) (sI h 812 m 0) := fun z => by
    rw [if_neg z] at k
    exact k _ f0 (md_0 H 0)
  refine bX11_end (fun _ _ => ⟨H.1.k, fun z => no (by omega), fun z => ?_⟩)
  rw [hI_sI, if_neg (by omega), R.1, ll]
  refine fun _ => ⟨fun z2 => ?_, fun z2 => no (by omega)⟩
  rw [if_pos (by omega)] at k
  have f1 : mFr m [812, 819] [] h (sI (sI h 812 m 0) 819 m n) := f0.sI (by decide)
  refine k _ f1 (md_tape H f1 (by decide) (by decide) ⟨?_, ?_, fun i hi => ?_⟩)
  · rw [hI_sI, if_pos ⟨.refl _, .refl _⟩, List.length_map, List.length_take]
    omega
  · rw [List.length_map, List.length_take]
    omega
  · rw [List.length_map, List.length_take] at hi
    rw [hA_sI, hA_sI, R.2.2 i (by omega), map_getD _ _ (by omega), map_getD _ _ (by rw [List.length_take]; omega), List.getD_eq_getElem?_getD, List.getD_eq_getElem?_getD, List.getElem?_take, if_pos (by omega)]
theorem v_cut {n : Int} (H : isMD h m s) (k : ∀ h', mFr m [812, 843] [] h h' → isMD h' m (cutV s n).2 → Q (.inl (some (jI (cutV s n).1))) h') : jCall d mX11_cut [jR m, jI n] h Q := by
  have R := H.2.2.2.2.1
  have f0 : mFr m [812, 843] [] h (sI h 812 m 0) := mFr.rfl.sI (by decide)
  unfold cutV at k
  have no : ¬ (0 ≤ n ∧ n ≤ s.1.2.2.1.length) → Q (.inl (some (jI 0))) (sI h 812 m 0) := fun z => by
    rw [if_neg z] at k
    exact k _ f0 (md_0 H 0)
  refine bX11_cut (fun _ _ => ⟨H.1.k, fun z => no (by omega), fun z => ?_⟩)
  rw [hI_sI, if_neg (by omega), R.1]
  refine fun _ => ⟨fun z2 => ?_, fun z2 => no (by omega)⟩
  rw [if_pos (by omega)] at k
  have f1 : mFr m [812, 843] [] h (sI (sI h 812 m 0) 843 m n) := f0.sI (by decide)
  have l2 := R.2.1
  refine k _ f1 (md_strip H f1 (by decide) (by decide) ⟨?_, ?_, fun i hi => ?_⟩)
  · rw [hI_sI, if_pos ⟨.refl _, .refl _⟩, List.length_take]
    omega
  · rw [List.length_take]
    omega
  · rw [List.length_take] at hi
    rw [hA_sI, hA_sI, R.2.2 i (by omega), List.getD_eq_getElem?_getD, List.getD_eq_getElem?_getD, List.getElem?_take, if_pos (by omega)]
theorem v_clock {y : Int} (H : isMD h m s) (k : ∀ h', mFr m [812, 822] [] h h' → isMD h' m (clockV s y).2 → Q (.inl (some (jI (clockV s y).1))) h') : jCall d mX11_clock [jR m, jI y] h Q := by
  have f0 : mFr m [812, 822] [] h (sI h 812 m 0) := mFr.rfl.sI (by decide)
  unfold clockV at k
  have no : ¬ (1950 ≤ y ∧ y ≤ 2200) → Q (.inl (some (jI 0))) (sI h 812 m 0) := fun z => by
    rw [if_neg z] at k
    exact k _ f0 (md_0 H 0)
  refine bX11_clock (fun _ _ => ⟨H.1.k, fun z => no (by omega), fun z => ⟨fun z2 => ?_, fun z2 => no (by omega)⟩⟩)
  rw [if_pos (by omega)] at k
  have f1 : mFr m [812, 822] [] h (sI (sI h 812 m 0) 822 m y) := f0.sI (by decide)
  obtain ⟨k1, k2, k3, k4, k5, k6, k7, k8, k9⟩ := H.keep f1
  refine k _ f1 ⟨k1, k2 (by decide), k3 (by decide), k4 (by decide), k5 (by decide), k6 (by decide), k7 (by decide), ⟨?_, ?_, ?_⟩, k9 (by decide)⟩
  · rw [hI_sI, if_pos ⟨.refl _, .refl _⟩]
  · rw [f1.i (by decide)]; exact H.2.2.2.2.2.2.2.1.2.1
  · rw [f1.i (by decide)]; exact H.2.2.2.2.2.2.2.1.2.2
theorem v_fault {w : Int} (H : isMD h m s) (k : ∀ h', mFr m [812] [] h h' → isMD h' m s → Q (.inl (some (jI (if w = 0 then s.2.2.1.2.1 else if w = 1 then s.2.2.1.2.2 else -1)))) h') : jCall d mX11_fault_ [jR m, jI w] h Q := by
  have f0 : mFr m [812] [] h (sI h 812 m 0) := mFr.rfl.sI (by decide)
  have kk := k _ f0 (md_0 H 0)
  have q := H.2.2.2.2.2.2.2.1
  refine bX11_fault_ (fun _ _ => ⟨H.1.k, ?_⟩)
  rw [hI_sI, if_neg (by omega), hI_sI, if_neg (by omega), q.2.1, q.2.2]
  refine ⟨fun z => ⟨fun z2 => ?_, fun z2 _ => ?_⟩, fun z _ => ?_⟩
  · rw [if_neg z, if_neg z2] at kk; exact kk
  · rw [if_neg z, if_pos z2] at kk; exact kk
  · rw [if_pos z] at kk; exact kk
theorem v_scanned {w : Int} (hr : 0 ≤ s.2.2.2.2.2 ∧ s.2.2.2.2.2 ≤ 1) (H : isMD h m s) (k : ∀ h', mFr m [812] [] h h' → isMD h' m s → Q (.inl (some (jI (if w = 0 then s.2.2.2.1 else if w = 1 then s.2.2.2.2.1 else if w = 2 then s.2.2.2.2.2 else -1)))) h') : jCall d mX11_scanned [jR m, jI w] h Q := by
  have f0 : mFr m [812] [] h (sI h 812 m 0) := mFr.rfl.sI (by decide)
  have kk := k _ f0 (md_0 H 0)
  have q := H.2.2.2.2.2.2.2.2
  refine bX11_scanned (fun _ _ => ⟨H.1.k, ?_⟩)
  rw [hI_sI, if_neg (by omega), hI_sI, if_neg (by omega), hI_sI, if_neg (by omega), q.1, q.2.1, q.2.2]
  refine ⟨fun z => ⟨fun z1 => ⟨fun z2 => ?_, fun z2 _ => ⟨fun y => ?_, fun y => ?_⟩⟩, fun z1 _ => ?_⟩, fun z _ => ?_⟩
  · rw [if_neg z, if_neg z1, if_neg z2] at kk; exact kk
  · rw [if_neg z, if_neg z1, if_pos z2, y] at kk; exact kk
  · rw [if_neg z, if_neg z1, if_pos z2, show s.2.2.2.2.2 = 1 by omega] at kk; exact kk
  · rw [if_neg z, if_pos z1] at kk; exact kk
  · rw [if_pos z] at kk; exact kk
theorem v_out {i : Int} (H : isMD h m s) (k : ∀ h', mFr m [812] [] h h' → isMD h' m s → Q (.inl (some (jI (lAt s.1.2.1 i)))) h') : jCall d mX11_out [jR m, jI i] h Q := by
  have f0 : mFr m [812] [] h (sI h 812 m 0) := mFr.rfl.sI (by decide)
  have kk := k _ f0 (md_0 H 0)
  have R := H.2.2.2.1
  have l2 := R.2.1
  unfold lAt at kk
  have no : ¬ (0 ≤ i ∧ i < s.1.2.1.length) → Q (.inl (some (jI (-1)))) (sI h 812 m 0) := fun z => by rw [if_neg z] at kk; exact kk
  refine bX11_out (fun _ _ => ⟨H.1.k, fun z => no (by omega), fun z => ?_⟩)
  rw [hI_sI, if_neg (by omega), R.1, H.1.r832, H.1.k832, H.1.n832]
  refine fun _ => ⟨fun z2 => ⟨.refl _, by omega, by omega, fun _ => ?_⟩, fun z2 => no (by omega)⟩
  rw [if_pos (by omega), ← R.get (by omega) z2] at kk
  exact kk
theorem v_character {i : Int} (H : isMD h m s) (k : ∀ h', mFr m [812] [] h h' → isMD h' m s → Q (.inl (some (jI (lAt s.1.2.2.2 i)))) h') : jCall d mX11_character [jR m, jI i] h Q := by
  have f0 : mFr m [812] [] h (sI h 812 m 0) := mFr.rfl.sI (by decide)
  have kk := k _ f0 (md_0 H 0)
  have R := H.2.2.2.2.2.1
  have l2 := R.2.1
  unfold lAt at kk
  have no : ¬ (0 ≤ i ∧ i < s.1.2.2.2.length) → Q (.inl (some (jI (-1)))) (sI h 812 m 0) := fun z => by rw [if_neg z] at kk; exact kk
  refine bX11_character (fun _ _ => ⟨H.1.k, fun z => no (by omega), fun z => ?_⟩)
  rw [hI_sI, if_neg (by omega), R.1, H.1.r837, H.1.k837, H.1.n837]
  refine fun _ => ⟨fun z2 => ⟨.refl _, by omega, by omega, fun _ => ?_⟩, fun z2 => no (by omega)⟩
  rw [if_pos (by omega), ← R.get (by omega) z2] at kk
  exact kk
theorem v_module {i : Int} (H : isMD h m s) (k : ∀ h', mFr m [812] [] h h' → isMD h' m s → Q (.inl (some (jI (lAt s.1.2.2.1 i)))) h') : jCall d mX11_module [jR m, jI i] h Q := by
  have f0 : mFr m [812] [] h (sI h 812 m 0) := mFr.rfl.sI (by decide)
  have kk := k _ f0 (md_0 H 0)
  have R := H.2.2.2.2.1
  have l2 := R.2.1
  unfold lAt at kk
  have no : ¬ (0 ≤ i ∧ i < s.1.2.2.1.length) → Q (.inl (some (jI (-1)))) (sI h 812 m 0) := fun z => by rw [if_neg z] at kk; exact kk
  refine bX11_module (fun _ _ => ⟨H.1.k, fun z => no (by omega), fun z => ?_⟩)
  rw [hI_sI, if_neg (by omega), R.1, H.1.r842, H.1.k842, H.1.n842]
  refine fun _ => ⟨fun z2 => ⟨.refl _, by omega, by omega, fun _ => ?_⟩, fun z2 => no (by omega)⟩
  rw [if_pos (by omega), ← R.get (by omega) z2] at kk
  exact kk
theorem v_ink {i : Int} {b : Bool} (H : isMD h m s) (k : ∀ h', mFr m [812, 843] [27] h h' → isMD h' m (inkV s i b).2 → Q (.inl (some (jI (inkV s i b).1))) h') : jCall d mX11_ink [jR m, jI i, jI (b2i b)] h Q := by
  have f0 : mFr m [812, 843] [27] h (sI h 812 m 0) := mFr.rfl.sI (by decide)
  have R := H.2.2.2.2.1
  have l2 := R.2.1
  unfold inkV at k
  have no : ¬ (0 ≤ i ∧ i < s.1.2.2.1.length) → Q (.inl (some (jI (-1)))) (sI h 812 m 0) := fun z => by rw [if_neg z] at k; exact k _ f0 (md_0 H 0)
  refine bX11_ink (fun _ _ _ => ⟨H.1.k, fun z => no (by omega), fun z => ?_⟩)
  rw [hI_sI, if_neg (by omega), R.1, H.1.r842, H.1.k842, H.1.n842]
  refine fun _ => ⟨fun z2 => ⟨.refl _, by omega, by omega, fun _ => ?_⟩, fun z2 => no (by omega)⟩
  rw [if_pos (by omega), ← R.get (by omega) z2] at k
  have go : ∀ c : Int, c = b2i b → Q (.inl (some (jI (hA h (m + 27) i)))) (sA (sI h 812 m 0) (m + 27) i c) := fun c ec => by
    have f1 : mFr m [812, 843] [27] h (sA (sI h 812 m 0) (m + 27) i c) := f0.sA (by decide)
    refine k _ f1 (md_strip H (mFr.sA (mFr.sI (mFr.rfl (fs := [812]) (as := [27])) (by decide)) (by decide)) (by decide) (by decide) ⟨?_, by rw [List.length_set]; exact l2, fun j hj => ?_⟩)
    · rw [hI_sA, hI_sI, if_neg (by omega), R.1, List.length_set]
    · rw [List.length_set] at hj
      rw [hA_sA, hA_sI, List.getD_eq_getElem?_getD, List.getElem?_set]
      by_cases e : i.toNat = j
      · rw [if_pos ⟨.refl _, by omega⟩, if_pos e, if_pos (by omega), ec]
        rfl
      · rw [if_neg (by omega), if_neg e, R.2.2 j hj, List.getD_eq_getElem?_getD]
  refine ⟨fun z3 => go _ ?_, fun z3 => go _ ?_⟩
  · rw [(b2i_eq _).mp z3]; rfl
  · rw [(b2i_ne _).mp z3]; rfl
end MS
