/-! THE MODEL: what it tells -/
def fiF (es : List jE) (f : Nat) (w : Int) : Nat → Nat → Int → Int × Nat
  | 0, i, a => (a, i)
  | n + 1, i, a => if w < a + byV es f i then (a, i) else fiF es f w n (i + 1) (a + byV es f i)
theorem fiF_48 (es : List jE) (f : Nat) : ∀ (n i : Nat) (a : Int), (fiF es f 48 n i a).2 = seF es f n i a
  | 0, i, a => rfl
  | n + 1, i, a => by
    unfold fiF seF
    split
    · rfl
    · exact fiF_48 es f n (i + 1) _
theorem fiF_sum (es : List jE) (f : Nat) (w : Int) : ∀ (n i : Nat) (a : Int), i ≤ (fiF es f w n i a).2 ∧ (fiF es f w n i a).2 ≤ i + n ∧ (fiF es f w n i a).1 = a + sumN (byV es f) ((fiF es f w n i a).2 - i) i
  | 0, i, a => by simp [fiF, sumN]
  | n + 1, i, a => by
    unfold fiF
    split
    · simp [sumN]
    · have ih := fiF_sum es f w n (i + 1) (a + byV es f i)
      obtain ⟨i1, i2, i3⟩ := ih
      refine ⟨by omega, by omega, ?_⟩
      rw [i3]
      have e : (fiF es f w n (i + 1) (a + byV es f i)).2 - i = ((fiF es f w n (i + 1) (a + byV es f i)).2 - (i + 1)) + 1 := by omega
      rw [e]
      simp only [sumN]
      omega
theorem fiF_all (es : List jE) (f : Nat) (hb : ∀ i, byV es f i ≤ 95) : ∀ (n i : Nat) (a : Int), a + 95 * n ≤ 100000 → (fiF es f 100000 n i a).2 = i + n
  | 0, i, a => fun _ => rfl
  | n + 1, i, a => fun h => by
    have := hb i
    unfold fiF
    rw [if_neg (by omega), fiF_all es f hb n (i + 1) _ (by omega)]
    omega
theorem getD_out {es : List jE} {k : Nat} (h : ¬ k < es.length) : es.getD k dE = dE := by
  rw [List.getD_eq_getElem?_getD, List.getElem?_eq_none (by omega)]
  rfl
theorem byV_le {h : jH} {m : Nat} {a : Int} {es : List jE} (L : mLst h m a es) (f i : Nat) : 0 ≤ byV es f i ∧ byV es f i ≤ 95 := by
  have b := b2i_rg (sepB es f i)
  unfold byV
  by_cases hi : i < es.length
  · have E := L.2.2 i hi
    have t := tabX E.1
    have := E.2.1
    omega
  · rw [getD_out hi]
    simp only [dE, List.length_nil]
    omega
/-- the lists that the press has -/
def mLs (h : jH) (m : Nat) (es : List jE) (sh : Nat → List jE) : Prop := mLst h m 0 es ∧ ∀ i : Nat, i < 8 → mLst h m (1 + i) (sh i)
section MT
variable {d m : Nat} {h : jH} {Q : jO → jH → Prop} {es : List jE}
theorem n_sizeOf {e : Int} {x : jE} (H : mSh h m) (T : mTb h m) (he : 0 ≤ e ∧ e < 201) (E : mEl h m e x) (k : Q (.inl (some (jI (x.2.1 + x.2.2.1.length)))) h) : jCall d mX11_sizeOf [jR m, jI e] h Q := by
  have t := E.tab T
  have u := tabX E.1
  have l := E.2.1
  refine bX11_sizeOf (fun _ _ => ⟨H.k, ?_⟩)
  rw [H.r814, H.k814, H.n814, H.r802, H.k802, H.n802, H.r815, H.k815, H.n815, t.2.2.2.1, E.2.2.2.1]
  exact ⟨.refl _, by omega, by omega, fun _ => ⟨.refl _, t.1, by omega, fun _ => ⟨.refl _, by omega, fun _ => ⟨⟨by omega, by omega⟩, k⟩⟩⟩⟩
theorem n_fits_loop {f : Nat} {w : Int} (T : mTb h m) (hw : 0 ≤ w ∧ w ≤ 100000) (n : Nat) : ∀ (i : Nat) (a : Int) (h1 : jH), i + n = es.length → f ≤ i → mSh h1 m → mTb h1 m → mLst h1 m 0 es → 0 ≤ a → a ≤ w → hI h1 829 m = (i : Int) - f → (∀ h', mFr m [829] [] h1 h' → hI h' 829 m = ((fiF es f w n i a).2 : Int) - f → Q (.inl (some (jI (fiF es f w n i a).1))) h') → jWp (d + 1) mX11_fits 10 [(0, jR m), (1, jI f), (2, jI w), (3, jI a), (4, jI i)] [] h1 Q := by
  induction n with
  | zero =>
    intro i a h1 hi hf H1 T1 L1 h0 ha g k
    refine bX11_fits_10 (fun _ _ _ _ _ => ⟨H1.k, ?_⟩)
    rw [H1.r813, H1.k813, H1.n813, L1.1]
    exact ⟨.refl _, by omega, by omega, fun _ => ⟨fun _ => bX11_fits_89 (fun _ _ => k h1 .rfl g), fun z => by omega⟩⟩
  | succ n ih =>
    intro i a h1 hi hf H1 T1 L1 h0 ha g k
    have l20 := L1.2.1
    have E := L1.2.2 i (by omega)
    have b := byV_le L1 f i
    rw [Int.mul_zero, Int.zero_add] at E
    have eb : byV es f i = b2i (sepB es f i) + (es.getD i dE).2.1 + (es.getD i dE).2.2.1.length := rfl
    unfold fiF at k
    have go : ∀ c : Int, c = byV es f i → j32 (a + c) ∧ ((a + c ≤ w → hK h1 m = 9 ∧ (j32 (hI h1 829 m) → j32 (hI h1 829 m + 1) ∧ j32 ((i : Int) + 1) ∧ jWp (d + 1) mX11_fits 10 [(0, jR m), (1, jI f), (2, jI w), (3, jI (a + c)), (4, jI ((i : Int) + 1))] [] (sI h1 829 m (hI h1 829 m + 1)) Q)) ∧ (¬ (a + c ≤ w) → jWp (d + 1) mX11_fits 89 [(3, jI a)] [] h1 Q)) := fun c ec => by
      subst ec
      refine ⟨⟨by omega, by omega⟩, fun z => ⟨H1.k, fun _ => ?_⟩, fun z => ?_⟩
      · rw [if_neg (by omega)] at k
        have fr : mFr m [829] [] h1 (sI h1 829 m (hI h1 829 m + 1)) := mFr.rfl.sI (by decide)
        refine ⟨⟨by omega, by omega⟩, ⟨by omega, by omega⟩, ih (i + 1) _ _ (by omega) (by omega) (fr.sh H1) (fr.tb T1 (by decide)) (fr.lst L1 (by decide)) (by omega) (by omega) ?_ (fun h' p => k h' (fr.trans p))⟩
        rw [hI_sI, if_pos ⟨.refl _, .refl _⟩, g]
        omega
      · rw [if_pos (by omega)] at k
        exact bX11_fits_89 (fun _ _ => k h1 .rfl g)
    refine bX11_fits_10 (fun _ _ _ _ _ => ⟨H1.k, ?_⟩)
    rw [H1.r813, H1.k813, H1.n813, L1.1]
    refine ⟨.refl _, by omega, by omega, fun _ => ⟨fun z => by omega, fun _ => n_sizeOf H1 T1 (by omega) E ⟨_, rfl, fun z => ?_, fun z => ⟨H1.k, ⟨by omega, by omega⟩, ?_⟩⟩⟩⟩
    · have sp : sepB es f i = false := by unfold sepB; rw [decide_eq_false (by omega)]; rfl
      rw [sp, show b2i false = 0 from rfl] at eb
      exact ⟨⟨by omega, by omega⟩, go _ (by rw [eb]; omega)⟩
    · rw [H1.r814, H1.k814, H1.n814]
      have F := L1.2.2 (i - 1) (by omega)
      rw [Int.mul_zero, Int.zero_add] at F
      have ei : ((i : Int) - 1) = ((i - 1 : Nat) : Int) := by omega
      have sp : sepB es f i = !fixE (es.getD (i - 1) dE) := by unfold sepB; rw [decide_eq_true (by omega)]; rfl
      rw [ei]
      refine ⟨.refl _, by omega, by omega, fun _ => n_fixE H1 T1 F ⟨_, rfl, fun z2 => ?_, fun z2 => ?_⟩⟩
      · rw [sp, (b2i_ne _).mp z2, show b2i (!true) = 0 from rfl] at eb
        exact ⟨⟨by omega, by omega⟩, go _ (by rw [eb]; omega)⟩
      · rw [sp, (b2i_eq _).mp z2, show b2i (!false) = 1 from rfl] at eb
        exact ⟨⟨by omega, by omega⟩, go _ (by rw [eb]; omega)⟩
theorem n_fits {f : Nat} {w : Int} (H : mSh h m) (T : mTb h m) (L : mLst h m 0 es) (hw : 0 ≤ w ∧ w ≤ 100000) (hf : f ≤ es.length) (k : ∀ h', mFr m [829] [] h h' → hI h' 829 m = ((fiF es f w (es.length - f) f 0).2 : Int) - f → Q (.inl (some (jI (fiF es f w (es.length - f) f 0).1))) h') : jCall (d + 1) mX11_fits [jR m, jI f, jI w] h Q := by
  have fr : mFr m [829] [] h (sI h 829 m 0) := mFr.rfl.sI (by decide)
  refine bX11_fits (fun _ _ _ => ⟨H.k, n_fits_loop T hw (es.length - f) f 0 _ (by omega) (Nat.le_refl _) (fr.sh H) (fr.tb T (by decide)) (fr.lst L (by decide)) (by omega) (by omega) ?_ (fun h' p => k h' (fr.trans p))⟩)
  rw [hI_sI, if_pos ⟨.refl _, .refl _⟩]
  omega
theorem n_list_loop (n : Nat) : ∀ (b : Nat) (s : Int) (h1 : jH), s + n = 21 → 0 ≤ s → b ≤ es.length → mSh h1 m → mTb h1 m → mLst h1 m 0 es → (∀ h', mFr m [829] [] h1 h' → Q (.inl (some (jI (syF es n b s)))) h') → s ≤ b → jWp (d + 2) mX11_list 41 [(0, jR m), (2, jI s), (3, jI b)] [] h1 Q := by
  induction n with
  | zero =>
    intro b s h1 hs h0 hb H1 T1 L1 k hsb
    have l20 := L1.2.1
    omega
  | succ n ih =>
    intro b s h1 hs h0 hb H1 T1 L1 k hsb
    have l20 := L1.2.1
    unfold syF at k
    refine bX11_list_41 (fun _ _ _ => ⟨H1.k, ?_⟩)
    rw [H1.r813, H1.k813, H1.n813, L1.1]
    refine ⟨.refl _, by omega, by omega, fun _ => ⟨fun z => ?_, fun z => ?_⟩⟩
    · rw [if_pos (by omega)] at k
      exact k h1 .rfl
    · rw [if_neg (by omega)] at k
      have fs := fiF_sum es b 48 (es.length - b) b 0
      rw [fiF_48] at fs
      refine n_fits H1 T1 L1 (by decide) hb (fun h2 f2 g2 => ⟨_, rfl, (f2.sh H1).k, ?_⟩)
      rw [g2, fiF_48]
      have r1 : b ≤ seV es b := fs.1
      have r2 : seV es b ≤ b + (es.length - b) := fs.2.1
      have e : seF es b (es.length - b) b 0 = seV es b := rfl
      rw [e]
      refine fun _ => ⟨fun y => ⟨⟨by omega, by omega⟩, ⟨by omega, by omega⟩, ?_⟩, fun y => ?_⟩
      · rw [if_neg (by omega)] at k
        rw [show (b : Int) + (((seV es b : Nat) : Int) - b) = ((seV es b : Nat) : Int) by omega]
        exact ih (seV es b) (s + 1) h2 (by omega) (by omega) (by omega) (f2.sh H1) (f2.tb T1 (by decide)) (f2.lst L1 (by decide)) (fun h' p => k h' (f2.trans p)) (by omega)
      · rw [if_pos (by omega)] at k
        exact k h2 f2
theorem n_list {w : Int} (H : mSh h m) (T : mTb h m) (L : mLst h m 0 es) (k : ∀ h', mFr m [812, 829] [] h h' → Q (.inl (some (jI (if w = 0 then (es.length : Int) else if w = 1 then sumN (byV es 0) es.length 0 else if w = 2 then syF es 21 0 0 else -1)))) h') : jCall (d + 2) mX11_list [jR m, jI w] h Q := by
  have l20 := L.2.1
  have f0 : mFr m [812, 829] [] h (sI h 812 m 0) := mFr.rfl.sI (by decide)
  have H1 := f0.sh H
  have T1 := f0.tb T (by decide)
  have L1 := f0.lst L (by decide)
  refine bX11_list (fun _ _ => ⟨H.k, fun z0 => ⟨fun z1 => ⟨fun z2 => ?_, fun z2 => ?_⟩, fun z1 => ?_⟩, fun z0 => ?_⟩)
  · rw [if_neg z0, if_neg z1, if_pos z2] at k
    exact n_list_loop 21 0 0 _ (by omega) (by omega) (by omega) H1 T1 L1 (fun h' p => k h' (f0.trans (p.mono (by decide) (by decide)))) (by omega)
  · rw [if_neg z0, if_neg z1, if_neg z2] at k
    exact k _ f0
  · rw [if_neg z0, if_pos z1] at k
    refine n_fits (f := 0) H1 T1 L1 (by decide) (by omega) (fun h2 f2 _ => ⟨_, rfl, ?_⟩)
    have fs := fiF_sum es 0 100000 es.length 0 0
    have fa := fiF_all es 0 (fun i => (byV_le L 0 i).2) es.length 0 0 (by omega)
    have kk := k h2 (f0.trans (f2.mono (by decide) (by decide)))
    rw [Nat.sub_zero, fs.2.2, fa, Int.zero_add, Nat.sub_zero, Nat.zero_add]
    exact kk
  · rw [if_pos z0] at k
    rw [H.r813, H.k813, H.n813, L.1]
    exact ⟨.refl _, by omega, by omega, fun _ => k _ f0⟩
theorem n_isOut {i : Int} (H : mSh h m) (L : mLst h m 0 es) (k0 : (i < 0 ∨ es.length ≤ i) → Q (.inl (some (jI 1))) (sI h 812 m 1)) (k1 : 0 ≤ i → i < es.length → Q (.inl (some (jI 0))) h) : jCall (d + 1) mX11_isOut [jR m, jI i] h Q := by
  refine bX11_isOut (fun _ _ => ⟨fun z => ⟨H.k, n_throwing H ⟨_, rfl, fun y => absurd y (by decide), fun _ => k0 (Or.inl z)⟩⟩, fun z => ⟨H.k, ?_⟩⟩)
  rw [H.r813, H.k813, H.n813, L.1]
  exact ⟨.refl _, by omega, by omega, fun _ => ⟨fun y => k1 (by omega) y, fun y => n_throwing H ⟨_, rfl, fun y => absurd y (by decide), fun _ => k0 (by omega)⟩⟩⟩
theorem n_find_loop {a dg : Int} (H : mSh h m) (T : mTb h m) (L : mLst h m 0 es) (n : Nat) : ∀ i : Nat, i + n = es.length → Q (.inl (some (jI (idxE (fun y => decide (y.1 = a ∧ y.2.1 = dg)) (es.drop i) i)))) h → jWp d mX11_find 7 [(0, jR m), (1, jI a), (2, jI dg), (3, jI i)] [] h Q := by
  have l20 := L.2.1
  induction n with
  | zero =>
    intro i hi k
    refine bX11_find_7 (fun _ _ _ _ => ⟨H.k, ?_⟩)
    rw [H.r813, H.k813, H.n813, L.1]
    rw [List.drop_eq_nil_of_le (by omega)] at k
    exact ⟨.refl _, by omega, by omega, fun _ => ⟨fun _ => k, fun z => by omega⟩⟩
  | succ n ih =>
    intro i hi k
    have E := L.2.2 i (by omega)
    rw [Int.mul_zero, Int.zero_add] at E
    have t := E.tab T
    rw [dropE (by omega)] at k
    unfold idxE at k
    have next : ¬ ((es.getD i dE).1 = a ∧ (es.getD i dE).2.1 = dg) → j32 ((i : Int) + 1) ∧ jWp d mX11_find 7 [(0, jR m), (1, jI a), (2, jI dg), (3, jI ((i : Int) + 1))] [] h Q := fun z => by
      rw [if_neg (fun y => z (of_decide_eq_true y))] at k
      exact ⟨⟨by omega, by omega⟩, ih (i + 1) (by omega) k⟩
    refine bX11_find_7 (fun _ _ _ _ => ⟨H.k, ?_⟩)
    rw [H.r813, H.k813, H.n813, L.1, H.r814, H.k814, H.n814, H.r801, H.k801, H.n801, H.r802, H.k802, H.n802, t.2.2.1, t.2.2.2.1]
    refine ⟨.refl _, by omega, by omega, fun _ => ⟨fun z => by omega, fun z => ⟨.refl _, by omega, by omega, fun _ => ⟨.refl _, t.1, by omega, fun _ => ⟨fun w => next (fun y => w y.1), fun w => ⟨.refl _, by omega, fun _ => ⟨fun w2 => next (fun y => w2 y.2), fun w2 => ?_⟩⟩⟩⟩⟩⟩⟩
    rw [if_pos (decide_eq_true ⟨w, w2⟩)] at k
    exact k
theorem n_find {a dg : Int} (H : mSh h m) (T : mTb h m) (L : mLst h m 0 es) (k : ∀ h', mFr m [812] [] h h' → Q (.inl (some (jI (idxE (fun y => decide (y.1 = a ∧ y.2.1 = dg)) es 0)))) h') : jCall d mX11_find [jR m, jI a, jI dg] h Q := by
  have f0 : mFr m [812] [] h (sI h 812 m 0) := mFr.rfl.sI (by decide)
  exact bX11_find (fun _ _ _ => ⟨H.k, n_find_loop (f0.sh H) (f0.tb T (by decide)) (f0.lst L (by decide)) es.length 0 (by omega) (k _ f0)⟩)
end MT
