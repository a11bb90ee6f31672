/-! THE MODEL: tape, strip, symbols printed -/
theorem mRow.put {h : jH} {m c a N : Nat} {l : List Int} (R : mRow h m c a N l) (hl : l.length < N) (v : Int) : mRow (sI (sA h (m + a) l.length v) c m (l.length + 1)) m c a N (l ++ [v]) := by
  refine ⟨?_, by simp; omega, fun i hi => ?_⟩
  · rw [hI_sI, if_pos ⟨.refl _, .refl _⟩]; simp
  · rw [hA_sI, hA_sA]
    by_cases e : i = l.length
    · rw [if_pos ⟨.refl _, by omega⟩, e]
      simp
    · simp at hi
      rw [if_neg (by omega), R.2.2 i (by omega), List.getD_eq_getElem?_getD, List.getD_eq_getElem?_getD, List.getElem?_append_left (by omega)]
theorem by4_get (a b c e f : Int) : ∀ r : Nat, r < 20 → (by4 a ++ (by4 b ++ (by4 c ++ (by4 e ++ by4 f)))).getD r 0 = [a, b, c, e, f].getD (r / 4) 0 / 2 ^ (24 - 8 * (r % 4)) % 256
  | 0, _ => rfl
  | 1, _ => rfl
  | 2, _ => rfl
  | 3, _ => rfl
  | 4, _ => rfl
  | 5, _ => rfl
  | 6, _ => rfl
  | 7, _ => rfl
  | 8, _ => rfl
  | 9, _ => rfl
  | 10, _ => rfl
  | 11, _ => rfl
  | 12, _ => rfl
  | 13, _ => rfl
  | 14, _ => rfl
  | 15, _ => rfl
  | 16, _ => rfl
  | 17, _ => rfl
  | 18, _ => rfl
  | 19, _ => rfl
  | r + 20, h => absurd h (by omega)
theorem app_getD (l t : List Int) (i : Nat) (h : l.length ≤ i) : (l ++ t).getD i 0 = t.getD (i - l.length) 0 := by
  rw [List.getD_eq_getElem?_getD, List.getD_eq_getElem?_getD, List.getElem?_append_right h]
theorem app_getL (l t : List Int) (i : Nat) (h : i < l.length) : (l ++ t).getD i 0 = l.getD i 0 := by
  rw [List.getD_eq_getElem?_getD, List.getD_eq_getElem?_getD, List.getElem?_append_left h]
section MU
variable {d m : Nat} {h : jH} {Q : jO → jH → Prop} {s : jP}
theorem n_feed_loop {L : Nat} {a b c e f : Int} (H : mSh h m) (hL : L + 20 ≤ 600) (n : Nat) : ∀ (kk : Nat) (h1 : jH), kk + n = 4 → mFr m [812, 819] [16] h h1 → hI h1 819 m = L → (∀ i : Int, i < L → hA h1 (m + 16) i = hA h (m + 16) i) → (∀ q j : Nat, q < 5 → j < kk → hA h1 (m + 16) (L + 4 * (q : Int) + j) = sb ([a, b, c, e, f].getD q 0 / 2 ^ (24 - 8 * j) % 256)) → (∀ h', mFr m [812, 819] [16] h h' → hI h' 819 m = L + 20 → (∀ i : Int, i < L → hA h' (m + 16) i = hA h (m + 16) i) → (∀ q j : Nat, q < 5 → j < 4 → hA h' (m + 16) (L + 4 * (q : Int) + j) = sb ([a, b, c, e, f].getD q 0 / 2 ^ (24 - 8 * j) % 256)) → Q (.inl (some (jI (L + 20)))) h') → jWp d mX11_feed 23 [(0, jR m), (1, jI a), (2, jI b), (3, jI c), (4, jI e), (5, jI f), (6, jI kk)] [] h1 Q := by
  induction n with
  | zero =>
    intro kk h1 hk p g u v k
    have ek : kk = 4 := by omega
    subst ek
    have G := p.sh H
    refine bX11_feed_23 (fun _ _ _ _ _ _ _ => ⟨fun _ => ⟨G.k, ?_⟩, fun z => absurd (by decide) z⟩)
    rw [g]
    refine fun _ => ⟨⟨by omega, by omega⟩, ?_⟩
    rw [hI_sI, if_pos ⟨.refl _, .refl _⟩]
    refine fun _ => k _ (p.sI (by decide)) ?_ (fun i hi => u i hi) (fun q j hq hj => v q j hq hj)
    rw [hI_sI, if_pos ⟨.refl _, .refl _⟩]
  | succ n ih =>
    intro kk h1 hk p g u v k
    have G := p.sh H
    have e8 : (24 - 8 * (kk : Int)).toNat = 24 - 8 * kk := by omega
    refine bX11_feed_23 (fun _ _ _ _ _ _ _ => ⟨fun z => by omega, fun z => ⟨⟨by omega, by omega⟩, ⟨by omega, by omega⟩, G.k, ?_⟩⟩)
    rw [g, G.r818, G.k818, G.n818, e8, sbw, sbw, sbw, sbw, sbw]
    refine fun _ => ⟨⟨by omega, by omega⟩, by omega, by omega, .refl _, by omega, by omega, ⟨by omega, by omega⟩, ⟨by omega, by omega⟩, by omega, by omega, ⟨by omega, by omega⟩, ⟨by omega, by omega⟩, by omega, by omega, ⟨by omega, by omega⟩, ⟨by omega, by omega⟩, by omega, by omega, ⟨by omega, by omega⟩, ⟨by omega, by omega⟩, by omega, by omega, ⟨by omega, by omega⟩, ?_⟩
    refine ih (kk + 1) _ (by omega) (((((p.sA (by decide)).sA (by decide)).sA (by decide)).sA (by decide)).sA (by decide)) g (fun i hi => ?_) (fun q j hq hj => ?_) k
    · rw [hA_sA, if_neg (by omega), hA_sA, if_neg (by omega), hA_sA, if_neg (by omega), hA_sA, if_neg (by omega), hA_sA, if_neg (by omega)]
      exact u i hi
    · by_cases ej : j = kk
      · subst ej
        rcases (show q = 0 ∨ q = 1 ∨ q = 2 ∨ q = 3 ∨ q = 4 by omega) with e | e | e | e | e
        · subst e; rw [hA_sA, if_neg (by omega), hA_sA, if_neg (by omega), hA_sA, if_neg (by omega), hA_sA, if_neg (by omega), hA_sA, if_pos ⟨.refl _, by omega⟩]; rfl
        · subst e; rw [hA_sA, if_neg (by omega), hA_sA, if_neg (by omega), hA_sA, if_neg (by omega), hA_sA, if_pos ⟨.refl _, by omega⟩]; rfl
        · subst e; rw [hA_sA, if_neg (by omega), hA_sA, if_neg (by omega), hA_sA, if_pos ⟨.refl _, by omega⟩]; rfl
        · subst e; rw [hA_sA, if_neg (by omega), hA_sA, if_pos ⟨.refl _, by omega⟩]; rfl
        · subst e; rw [hA_sA, if_pos ⟨.refl _, by omega⟩]; rfl
      · rw [hA_sA, if_neg (by omega), hA_sA, if_neg (by omega), hA_sA, if_neg (by omega), hA_sA, if_neg (by omega), hA_sA, if_neg (by omega)]
        exact v q j hq (by omega)
theorem v_feed {a b c e f : Int} (H : isMD h m s) (k : ∀ h', mFr m [812, 819] [16] h h' → isMD h' m (feedV s a b c e f).2 → Q (.inl (some (jI (feedV s a b c e f).1))) h') : jCall d mX11_feed [jR m, jI a, jI b, jI c, jI e, jI f] h Q := by
  have R := H.2.2.1
  have f0 : mFr m [812, 819] [16] h (sI h 812 m 0) := mFr.rfl.sI (by decide)
  have ll : (s.1.1.map sb).length = s.1.1.length := List.length_map _
  have l6 := R.2.1
  unfold feedV at k
  refine bX11_feed (fun _ _ _ _ _ _ => ⟨H.1.k, ?_⟩)
  rw [hI_sI, if_neg (by omega), R.1, ll]
  refine fun _ => ⟨⟨by omega, by omega⟩, fun z => ?_, fun z => ?_⟩
  · rw [if_neg (by omega)] at k
    refine n_feed_loop (h := h) (L := s.1.1.length) H.1 (by omega) 4 0 _ rfl f0 ?_ (fun _ _ => .refl _) (fun _ j _ hj => absurd hj (by omega)) (fun h' p g u v => k h' p (md_tape H p (by decide) (by decide) ⟨?_, ?_, fun i hi => ?_⟩))
    · rw [hI_sI, if_neg (by omega), R.1, ll]
    · rw [g]; simp [by4]
    · simp [by4]; omega
    · rw [List.length_map] at hi
      rw [map_getD _ _ hi]
      by_cases c1 : i < s.1.1.length
      · rw [u i (by omega), R.2.2 i (by omega), map_getD _ _ c1, app_getL _ _ _ c1]
      · have hi2 : i < s.1.1.length + 20 := by simpa [by4] using hi
        have := v ((i - s.1.1.length) / 4) ((i - s.1.1.length) % 4) (by omega) (by omega)
        rw [app_getD _ _ _ (by omega), by4_get _ _ _ _ _ _ (by omega), ← this]
        congr 1
        omega
  · rw [if_pos (by omega)] at k
    exact k _ f0 (md_0 H 0)
theorem n_take_loop {N : Nat} {l : List Int} (H : mSh h m) (hN : N ≤ 600) (hl : N ≤ l.length) (n : Nat) : ∀ (i : Nat) (h1 : jH), i + n = N → mFr m [812, 819] [16] h h1 → hI h1 819 m = N → (∀ j : Nat, j < N → hA h1 (m + 20) (j : Int) = l.getD j 0) → (∀ j : Nat, j < i → hA h1 (m + 16) (j : Int) = l.getD j 0) → (∀ h', mFr m [812, 819] [16] h h' → hI h' 819 m = N → (∀ j : Nat, j < N → hA h' (m + 16) (j : Int) = l.getD j 0) → Q (.inl (some (jI N))) h') → jWp d mX11_take 31 [(0, jR m), (1, jI i)] [] h1 Q := by
  induction n with
  | zero =>
    intro i h1 hi p g o v k
    have G := p.sh H
    refine bX11_take_31 (fun _ _ => ⟨G.k, ?_⟩)
    rw [g]
    exact fun _ => ⟨fun _ => k h1 p g (fun j hj => v j (by omega)), fun z => by omega⟩
  | succ n ih =>
    intro i h1 hi p g o v k
    have G := p.sh H
    refine bX11_take_31 (fun _ _ => ⟨G.k, ?_⟩)
    rw [g, G.r832, G.k832, G.n832, G.r818, G.k818, G.n818, o i (by omega)]
    refine fun _ => ⟨fun z => by omega, fun z => ⟨.refl _, by omega, by omega, fun r => ⟨.refl _, by omega, r, ⟨by omega, by omega⟩, ?_⟩⟩⟩
    refine ih (i + 1) _ (by omega) (p.sA (by decide)) g (fun j hj => ?_) (fun j hj => ?_) k
    · rw [hA_sA, if_neg (by omega)]; exact o j hj
    · rw [hA_sA]
      by_cases e : j = i
      · subst e; rw [if_pos ⟨.refl _, .refl _⟩]
      · rw [if_neg (by omega)]; exact v j (by omega)
theorem v_take (ho : ∀ x ∈ s.1.2.1, x < 128) (H : isMD h m s) (k : ∀ h', mFr m [812, 819] [16] h h' → isMD h' m ((s.1.2.1.take 600, s.1.2), s.2) → Q (.inl (some (jI (s.1.2.1.take 600).length))) h') : jCall d mX11_take [jR m] h Q := by
  have R := H.2.2.2.1
  have l3 := R.2.1
  have tl : (s.1.2.1.take 600).length = min 600 s.1.2.1.length := List.length_take
  have go : ∀ N : Nat, N = min 600 s.1.2.1.length → jWp d mX11_take 31 [(0, jR m), (1, jI 0)] [] (sI (sI h 812 m 0) 819 m N) Q := fun N hN => by
    have f1 : mFr m [812, 819] [16] h (sI (sI h 812 m 0) 819 m N) := (mFr.rfl.sI (by decide)).sI (by decide)
    refine n_take_loop (h := h) (N := N) (l := s.1.2.1) H.1 (by omega) (by omega) N 0 _ (by omega) f1 ?_ (fun j hj => R.2.2 j (by omega)) (fun j hj => absurd hj (by omega)) (fun h' p g v => ?_)
    · rw [hI_sI, if_pos ⟨.refl _, .refl _⟩]
    · have kk := k h' p (md_tape H p (by decide) (by decide) ⟨?_, ?_, fun i hi => ?_⟩)
      · rw [tl, ← hN] at kk
        exact kk
      · rw [g, List.length_map, tl, ← hN]
      · rw [List.length_map, tl]; omega
      · rw [map_sb (fun x hx => ho x (List.mem_of_mem_take hx))] at hi ⊢
        rw [tl] at hi
        rw [v i (by omega), List.getD_eq_getElem?_getD, List.getD_eq_getElem?_getD, List.getElem?_take, if_pos (by omega)]
  refine bX11_take (fun _ => ⟨H.1.k, ?_⟩)
  rw [hI_sI, if_neg (by omega), R.1]
  refine fun _ => ⟨fun z => go 600 (by omega), fun z => go s.1.2.1.length (by omega)⟩
theorem n_lay_loop {b : Int} (n : Nat) : ∀ (h : jH) (l : List Int), n ≤ 32 → mSh h m → mRow h m 843 27 2000 l → l.length + n ≤ 2000 → (∀ h', mFr m [843] [27] h h' → mRow h' m 843 27 2000 (l ++ bitsF b n) → Q (.inl none) h') → jWp d mX11_lay 4 [(0, jR m), (1, jI b), (3, jI ((n : Int) - 1))] [] h Q := by
  induction n with
  | zero =>
    intro h l hn H R hl k
    refine bX11_lay_4 (fun _ _ _ => ⟨fun _ => k h .rfl ?_, fun z => absurd (by decide) z⟩)
    rw [show bitsF b 0 = [] from rfl, List.append_nil]
    exact R
  | succ n ih =>
    intro h l hn H R hl k
    refine bX11_lay_4 (fun _ _ _ => ⟨fun z => by omega, fun z => ⟨H.k, ?_⟩⟩)
    rw [R.1, H.r842, H.k842, H.n842, show (((n + 1 : Nat) : Int) - 1).toNat = n by omega, show (b / 2 ^ n % 2 + 128) % 256 - 128 = b / 2 ^ n % 2 by omega, show ((n + 1 : Nat) : Int) - 1 + (-1) = (n : Int) - 1 by omega]
    have f1 : mFr m [843] [27] h (sI (sA h (m + 27) l.length (b / 2 ^ n % 2)) 843 m (l.length + 1)) := (mFr.rfl.sA (by decide)).sI (by decide)
    refine fun _ => ⟨by omega, by omega, .refl _, by omega, by omega, ⟨by omega, by omega⟩, ⟨by omega, by omega⟩, ih _ _ (by omega) (f1.sh H) (R.put (by omega) _) (by rw [List.length_append]; simp; omega) (fun h' p R' => k h' (f1.trans p) ?_)⟩
    rw [List.append_assoc] at R'
    exact R'
theorem n_lay {b : Int} {n : Nat} {l : List Int} (hn : n ≤ 32) (H : mSh h m) (R : mRow h m 843 27 2000 l) (hl : l.length + n ≤ 2000) (k : ∀ h', mFr m [843] [27] h h' → mRow h' m 843 27 2000 (l ++ bitsF b n) → Q (.inl none) h') : jCall d mX11_lay [jR m, jI b, jI n] h Q :=
  bX11_lay (fun _ _ _ => ⟨⟨by omega, by omega⟩, n_lay_loop n h l hn H R hl k⟩)
theorem v_bars {a b c e f : Int} (H : isMD h m s) (k : ∀ h', mFr m [812, 843] [27] h h' → isMD h' m (barsV s a b c e f).2 → Q (.inl (some (jI (barsV s a b c e f).1))) h') : jCall (d + 1) mX11_bars [jR m, jI a, jI b, jI c, jI e, jI f] h Q := by
  have R := H.2.2.2.2.1
  have f0 : mFr m [812, 843] [27] h (sI h 812 m 0) := mFr.rfl.sI (by decide)
  have H0 := f0.sh H.1
  have R0 : mRow (sI h 812 m 0) m 843 27 2000 s.1.2.2.1 := (md_0 H 0).2.2.2.2.1
  have l2 := R.2.1
  have bl : ∀ x, (bitsF x 32).length = 32 := fun x => bitsF_len x 32
  unfold barsV at k
  refine bX11_bars (fun _ _ _ _ _ _ => ⟨H.1.k, ?_⟩)
  rw [hI_sI, if_neg (by omega), R.1]
  refine fun _ => ⟨⟨by omega, by omega⟩, fun z => ?_, fun z => ?_⟩
  · rw [if_neg (by omega)] at k
    refine n_lay (n := 32) (by decide) H0 R0 (by omega) (fun h1 f1 R1 => ⟨rfl, (f1.sh H0).k, ?_⟩)
    refine n_lay (n := 32) (by decide) (f1.sh H0) R1 (by rw [List.length_append, bl]; omega) (fun h2 f2 R2 => ⟨rfl, (f2.sh (f1.sh H0)).k, ?_⟩)
    have H2 := f2.sh (f1.sh H0)
    refine n_lay (n := 32) (by decide) H2 R2 (by rw [List.length_append, List.length_append, bl, bl]; omega) (fun h3 f3 R3 => ⟨rfl, (f3.sh H2).k, ?_⟩)
    refine n_lay (n := 32) (by decide) (f3.sh H2) R3 (by rw [List.length_append, List.length_append, List.length_append, bl, bl, bl]; omega) (fun h4 f4 R4 => ⟨rfl, (f4.sh (f3.sh H2)).k, ?_⟩)
    have H4 := f4.sh (f3.sh H2)
    refine n_lay (n := 32) (by decide) H4 R4 (by rw [List.length_append, List.length_append, List.length_append, List.length_append, bl, bl, bl, bl]; omega) (fun h5 f5 R5 => ⟨rfl, (f5.sh H4).k, ?_⟩)
    have ff : mFr m [812, 843] [27] h h5 := f0.trans ((((((f1.trans f2).trans f3).trans f4).trans f5)).mono (by decide) (by decide))
    have el : s.1.2.2.1 ++ bitsF a 32 ++ bitsF b 32 ++ bitsF c 32 ++ bitsF e 32 ++ bitsF f 32 = s.1.2.2.1 ++ (bit32 a ++ (bit32 b ++ (bit32 c ++ (bit32 e ++ bit32 f)))) := by simp [bit32]
    rw [el] at R5
    have kk := k h5 ff (md_strip H ff (by decide) (by decide) R5)
    rw [R5.1]
    refine fun _ => ?_
    rw [show ((s.1.2.2.1 ++ (bit32 a ++ (bit32 b ++ (bit32 c ++ (bit32 e ++ bit32 f))))).length : Int) = s.1.2.2.1.length + 160 by simp [bit32, bl]]
    exact kk
  · rw [if_pos (by omega)] at k
    exact k _ f0 (md_0 H 0)
/-- a symbol's characters: all but the last below 106, the last is STOP; or there is none -/
def symOk (l : List Int) : Prop := l = [] ∨ ∃ t, l = t ++ [106] ∧ ∀ x ∈ t, 0 ≤ x ∧ x < 106
theorem n_print_loop {t : List Int} (ht : ∀ x ∈ t, 0 ≤ x ∧ x < 106) (n : Nat) : ∀ (i : Nat) (h : jH) (l : List Int), i + n = t.length → mSh h m → mTb h m → mRow h m 838 23 100 (t ++ [106]) → mRow h m 843 27 2000 l → l.length + 11 * n + 23 ≤ 2000 → (∀ h', mFr m [843] [27] h h' → mRow h' m 843 27 2000 (l ++ ((t.drop i).flatMap barV ++ (bitsF patS 13 ++ bitsF 0 10))) → Q (.inl (some (jI (l ++ ((t.drop i).flatMap barV ++ (bitsF patS 13 ++ bitsF 0 10))).length))) h') → jWp (d + 1) mX11_print 36 [(0, jR m), (1, jI i)] [] h Q := by
  induction n with
  | zero =>
    intro i h l hi H T S R hl k
    have sl : (t ++ [106]).length = t.length + 1 := by simp
    have l100 := S.2.1
    refine bX11_print_36 (fun _ _ => ⟨⟨by omega, by omega⟩, H.k, ?_⟩)
    rw [S.1, sl, T.2.2.2.2.2]
    refine fun _ => ⟨fun _ _ => ?_, fun z => by omega⟩
    refine n_lay (n := 13) (by decide) H R (by omega) (fun h1 f1 R1 => ⟨rfl, (f1.sh H).k, ?_⟩)
    refine n_lay (n := 10) (by decide) (f1.sh H) R1 (by rw [List.length_append, bitsF_len]; omega) (fun h2 f2 R2 => ⟨rfl, (f2.sh (f1.sh H)).k, ?_⟩)
    rw [List.drop_of_length_le (by omega), List.flatMap_nil, List.nil_append, ← List.append_assoc] at k
    rw [R2.1]
    exact fun _ => k h2 (f1.trans f2) R2
  | succ n ih =>
    intro i h l hi H T S R hl k
    have sl : (t ++ [106]).length = t.length + 1 := by simp
    have l100 := S.2.1
    have e1 : (t ++ [106]).getD i 0 = t.getD i 0 := app_getL _ _ _ (by omega)
    have m1 : t.getD i 0 ∈ t := by
      rw [List.getD_eq_getElem?_getD, List.getElem?_eq_getElem (by omega)]
      exact List.getElem_mem _
    have r1 := ht _ m1
    have tb := T.2.2.2.2.1 (t.getD i 0).toNat (by omega)
    rw [show (((t.getD i 0).toNat : Nat) : Int) = t.getD i 0 by omega] at tb
    have bv : barV (t.getD i 0) = bitsF (patL.getD (t.getD i 0).toNat 0) 11 := if_pos r1
    refine bX11_print_36 (fun _ _ => ⟨⟨by omega, by omega⟩, H.k, ?_⟩)
    rw [S.1, sl, H.r837, H.k837, H.n837, H.r835, H.k835, H.n835, S.2.2 i (by omega), e1, tb]
    refine fun _ => ⟨fun z => by omega, fun z => ⟨.refl _, by omega, by omega, fun _ => ⟨.refl _, r1.1, r1.2, fun _ => ?_⟩⟩⟩
    refine n_lay (n := 11) (by decide) H R (by omega) (fun h1 f1 R1 => ⟨rfl, ⟨by omega, by omega⟩, ?_⟩)
    rw [← bv] at R1
    refine ih (i + 1) h1 _ (by omega) (f1.sh H) (f1.tb T (by decide)) (f1.row S (by decide) (by decide)) R1 (by rw [List.length_append, bv, bitsF_len]; omega) (fun h' p R' => ?_)
    have ed : t.drop i = t.getD i 0 :: t.drop (i + 1) := drop_getD (by omega)
    have el : l ++ barV (t.getD i 0) ++ ((t.drop (i + 1)).flatMap barV ++ (bitsF patS 13 ++ bitsF 0 10)) = l ++ ((t.drop i).flatMap barV ++ (bitsF patS 13 ++ bitsF 0 10)) := by
      rw [ed, List.flatMap_cons]; simp
    rw [el] at R' ⊢
    exact k h' (f1.trans p) R'
theorem v_print (ok : symOk s.1.2.2.2) (H : isMD h m s) (k0 : s.1.2.2.2 = [] → ∀ h', mFr m [812, 843] [27] h h' → isMD h' m s → hI h' 812 m = 1 → Q (.inl (some (jI (-1)))) h') (k1 : s.1.2.2.2 ≠ [] → ∀ h', mFr m [812, 843] [27] h h' → isMD h' m ((s.1.1, s.1.2.1, prtL s.1.2.2.2, s.1.2.2.2), s.2) → hI h' 812 m = 0 → Q (.inl (some (jI (prtL s.1.2.2.2).length))) h') : jCall (d + 1) mX11_print [jR m] h Q := by
  have S := H.2.2.2.2.2.1
  have f0 : mFr m [812, 843] [27] h (sI h 812 m 0) := mFr.rfl.sI (by decide)
  refine bX11_print (fun _ => ⟨H.1.k, ?_⟩)
  rw [hI_sI, if_neg (by omega), S.1]
  refine fun _ => ⟨fun z => ?_, fun z => ?_⟩
  · have ne : s.1.2.2.2 ≠ [] := fun e => by rw [e] at z; exact z rfl
    obtain ⟨t, et, ht⟩ : ∃ t, s.1.2.2.2 = t ++ [106] ∧ ∀ x ∈ t, 0 ≤ x ∧ x < 106 := by
      rcases ok with e | e
      · exact absurd e ne
      · exact e
    have f1 : mFr m [812, 843] [27] h (sI (sI h 812 m 0) 843 m 0) := f0.sI (by decide)
    have H1 := f1.sh H.1
    have T1 := f1.tb H.2.1 (by decide)
    have R1 : mRow (sI (sI h 812 m 0) 843 m 0) m 843 27 2000 [] := ⟨by rw [hI_sI, if_pos ⟨.refl _, .refl _⟩]; rfl, by simp, fun i hi => absurd hi (by simp)⟩
    have S1 := f1.row S (by decide) (by decide)
    have l100 := S.2.1
    rw [et] at S1
    have tl : t.length + 1 ≤ 100 := by rw [et] at l100; simpa using l100
    refine n_lay (n := 10) (by decide) H1 R1 (by simp) (fun h2 f2 R2 => ⟨rfl, ?_⟩)
    rw [List.nil_append] at R2
    refine n_print_loop ht t.length 0 h2 _ (by omega) (f2.sh H1) (f2.tb T1 (by decide)) (f2.row S1 (by decide) (by decide)) R2 (by rw [bitsF_len]; omega) (fun h3 f3 R3 => ?_)
    have ff : mFr m [812, 843] [27] h h3 := f1.trans ((f2.trans f3).mono (by decide) (by decide))
    have el : bitsF 0 10 ++ ((t.drop 0).flatMap barV ++ (bitsF patS 13 ++ bitsF 0 10)) = prtL s.1.2.2.2 := by
      unfold prtL
      have b0 : bitsF 0 10 = List.replicate 10 0 := by decide
      have b106 : barV 106 = bitsF patS 13 := if_neg (by decide)
      rw [et, List.flatMap_append, List.drop_zero, b0]
      simp [b106]
    rw [el] at R3 ⊢
    refine k1 ne h3 ff (md_strip H ff (by decide) (by decide) R3) ?_
    rw [(f2.trans f3).i (by decide), hI_sI, if_neg (by omega), hI_sI, if_pos ⟨.refl _, .refl _⟩]
  · have e : s.1.2.2.2 = [] := List.length_eq_zero_iff.mp (by omega)
    have f1 : mFr m [812, 843] [27] h (sI (sI h 812 m 0) 812 m 1) := f0.sI (by decide)
    refine n_throwing (f0.sh H.1) ⟨_, rfl, fun w => absurd w (by decide), fun _ => k0 e _ f1 (md_0 (md_0 H 0) 1) ?_⟩
    rw [hI_sI, if_pos ⟨.refl _, .refl _⟩]
theorem n_turn_loop {l : List Int} (H : mSh h m) (hl : l.length ≤ 2000) (hg : hI h 843 m = l.length) (n : Nat) : ∀ (i : Nat) (h1 : jH), (l.length + 1) / 2 ≤ i + n → i ≤ (l.length + 1) / 2 → mFr m [812, 843] [27] h h1 → hI h1 843 m = l.length → (∀ j : Nat, j < l.length → hA h1 (m + 27) (j : Int) = if j < i ∨ l.length ≤ j + i then l.getD (l.length - 1 - j) 0 else l.getD j 0) → (∀ h', mFr m [812, 843] [27] h h' → mRow h' m 843 27 2000 l.reverse → Q (.inl (some (jI l.length))) h') → jWp d mX11_turn 7 [(0, jR m), (1, jI i)] [] h1 Q := by
  have rv : ∀ j : Nat, j < l.length → l.reverse.getD j 0 = l.getD (l.length - 1 - j) 0 := fun j hj => by
    rw [List.getD_eq_getElem?_getD, List.getD_eq_getElem?_getD, List.getElem?_reverse hj]
  have done : ∀ (i : Nat) (h1 : jH), l.length ≤ 2 * i → i ≤ (l.length + 1) / 2 → mFr m [812, 843] [27] h h1 → hI h1 843 m = l.length → (∀ j : Nat, j < l.length → hA h1 (m + 27) (j : Int) = if j < i ∨ l.length ≤ j + i then l.getD (l.length - 1 - j) 0 else l.getD j 0) → mRow h1 m 843 27 2000 l.reverse := fun i h1 hi hi2 p g v => ⟨by rw [g, List.length_reverse], by rw [List.length_reverse]; exact hl, fun j hj => by
    rw [List.length_reverse] at hj
    rw [v j hj, rv j hj, if_pos (by omega)]⟩
  induction n with
  | zero =>
    intro i h1 hi hi2 p g v k
    have G := p.sh H
    refine bX11_turn_7 (fun _ _ => ⟨⟨by omega, by omega⟩, G.k, ?_⟩)
    rw [g]
    exact fun _ => ⟨fun _ => k h1 p (done i h1 (by omega) hi2 p g v), fun z => by omega⟩
  | succ n ih =>
    intro i h1 hi hi2 p g v k
    have G := p.sh H
    refine bX11_turn_7 (fun _ _ => ⟨⟨by omega, by omega⟩, G.k, ?_⟩)
    rw [g]
    refine fun _ => ⟨fun z => k h1 p (done i h1 (by omega) hi2 p g v), fun z => ?_⟩
    have ei : (l.length : Int) - 1 - i = ((l.length - 1 - i : Nat) : Int) := by omega
    rw [ei, G.r842, G.k842, G.n842, v i (by omega), v (l.length - 1 - i) (by omega)]
    by_cases mid : 2 * i + 1 = l.length
    · rw [if_neg (by omega), if_neg (by omega), show l.length - 1 - i = i by omega]
      refine ⟨.refl _, by omega, by omega, fun r => ⟨⟨by omega, by omega⟩, ⟨by omega, by omega⟩, by omega, by omega, fun r2 => ⟨r2, r, ⟨by omega, by omega⟩, ?_⟩⟩⟩
      refine ih (i + 1) _ (by omega) (by omega) ((p.sA (by decide)).sA (by decide)) g (fun j hj => ?_) k
      rw [hA_sA, hA_sA]
      by_cases e : j = i
      · subst e
        rw [if_pos ⟨.refl _, .refl _⟩, if_pos (by omega), show l.length - 1 - j = j by omega]
      · rw [if_neg (by omega), if_neg (by omega), v j hj]
        by_cases q : j < i ∨ l.length ≤ j + i
        · rw [if_pos q, if_pos (by omega)]
        · rw [if_neg q, if_pos (by omega)]
          omega
    · rw [if_neg (by omega), if_neg (by omega)]
      refine ⟨.refl _, by omega, by omega, fun r => ⟨⟨by omega, by omega⟩, ⟨by omega, by omega⟩, by omega, by omega, fun r2 => ⟨r2, r, ⟨by omega, by omega⟩, ?_⟩⟩⟩
      refine ih (i + 1) _ (by omega) (by omega) ((p.sA (by decide)).sA (by decide)) g (fun j hj => ?_) k
      rw [hA_sA, hA_sA]
      by_cases e : j = l.length - 1 - i
      · subst e
        rw [if_pos ⟨.refl _, .refl _⟩, if_pos (by omega), show l.length - 1 - (l.length - 1 - i) = i by omega]
      · rw [if_neg (by omega)]
        by_cases e2 : j = i
        · subst e2
          rw [if_pos ⟨.refl _, .refl _⟩, if_pos (by omega)]
        · rw [if_neg (by omega), v j hj]
          by_cases q : j < i ∨ l.length ≤ j + i
          · rw [if_pos q, if_pos (by omega)]
          · rw [if_neg q, if_neg (by omega)]
theorem v_turn (H : isMD h m s) (k : ∀ h', mFr m [812, 843] [27] h h' → isMD h' m ((s.1.1, s.1.2.1, s.1.2.2.1.reverse, s.1.2.2.2), s.2) → Q (.inl (some (jI s.1.2.2.1.length))) h') : jCall d mX11_turn [jR m] h Q := by
  have R := H.2.2.2.2.1
  have f0 : mFr m [812, 843] [27] h (sI h 812 m 0) := mFr.rfl.sI (by decide)
  refine bX11_turn (fun _ => ⟨H.1.k, n_turn_loop (h := h) H.1 R.2.1 R.1 ((s.1.2.2.1.length + 1) / 2) 0 _ (by omega) (by omega) f0 ?_ (fun j hj => ?_) (fun h' p R' => k h' p (md_strip H p (by decide) (by decide) R'))⟩)
  · rw [hI_sI, if_neg (by omega), R.1]
  · rw [hA_sI, R.2.2 j hj, if_neg (by omega)]
theorem n_checkOf_loop {r : Nat} {f : Int} {t : List Int} (hk : hK h r = 11) (hf : 0 ≤ f ∧ f < 1000000) (hN : f + t.length ≤ hN h r) (hl : t.length ≤ 100) (v : ∀ i : Nat, i < t.length → hA h r (f + i) = t.getD i 0) (dg : ∀ i : Nat, i < t.length → isD (t.getD i 0) = true) (n : Nat) : ∀ (i : Nat) (a w : Int), i + n = t.length → (i % 2 = 0 → w = 3) → (i % 2 = 1 → w = 1) → 0 ≤ a → a ≤ 27 * i → Q (.inl (some (jI ((10 - (a + ckr w (t.reverse.drop i)) % 10) % 10)))) h → jWp d mX11_checkOf 5 [(0, jR r), (1, jI f), (2, jI t.length), (3, jI a), (4, jI i)] [] h Q := by
  induction n with
  | zero =>
    intro i a w hi _ _ a0 a1 k
    rw [List.drop_of_length_le (by rw [List.length_reverse]; omega)] at k
    simp only [ckr, Int.add_zero] at k
    exact bX11_checkOf_5 (fun _ _ _ _ _ => ⟨fun _ => ⟨a0, ⟨by omega, by omega⟩, by omega, k⟩, fun z => by omega⟩)
  | succ n ih =>
    intro i a w hi w0 w1 a0 a1 k
    have vi := v (t.length - 1 - i) (by omega)
    have di := isD_rg (dg (t.length - 1 - i) (by omega))
    have rv : t.reverse.getD i 0 = t.getD (t.length - 1 - i) 0 := by
      rw [List.getD_eq_getElem?_getD, List.getD_eq_getElem?_getD, List.getElem?_reverse (by omega)]
    rw [drop_getD (by rw [List.length_reverse]; omega), rv] at k
    simp only [ckr] at k
    rw [show f + ((t.length - 1 - i : Nat) : Int) = f + t.length - 1 - i by omega] at vi
    refine bX11_checkOf_5 (fun _ _ _ _ _ => ⟨fun z => by omega, fun z => ⟨⟨by omega, by omega⟩, ⟨by omega, by omega⟩, ⟨by omega, by omega⟩, hk, by omega, by omega, ?_⟩⟩)
    rw [vi]
    refine fun _ => ⟨⟨by omega, by omega⟩, by omega, fun y => ?_, fun y => ?_⟩
    · have ew := w1 (by omega)
      subst ew
      refine ⟨⟨by omega, by omega⟩, ⟨by omega, by omega⟩, ⟨by omega, by omega⟩, ih (i + 1) _ 3 (by omega) (fun _ => rfl) (fun q => by omega) (by omega) (by omega) ?_⟩
      rw [Int.add_assoc]
      exact k
    · have ew := w0 (by omega)
      subst ew
      refine ⟨⟨by omega, by omega⟩, ⟨by omega, by omega⟩, ⟨by omega, by omega⟩, ih (i + 1) _ 1 (by omega) (fun q => by omega) (fun _ => rfl) (by omega) (by omega) ?_⟩
      rw [Int.add_assoc]
      exact k
theorem n_checkOf {r : Nat} {f : Int} {t : List Int} (hk : hK h r = 11) (hf : 0 ≤ f ∧ f < 1000000) (hN : f + t.length ≤ hN h r) (hl : t.length ≤ 100) (v : ∀ i : Nat, i < t.length → hA h r (f + i) = t.getD i 0) (dg : ∀ i : Nat, i < t.length → isD (t.getD i 0) = true) (k : Q (.inl (some (jI (ckOf t)))) h) : jCall d mX11_checkOf [jR r, jI f, jI t.length] h Q := by
  refine bX11_checkOf (fun _ _ _ => n_checkOf_loop hk hf hN hl v dg t.length 0 0 3 (by omega) (fun _ => rfl) (fun q => by omega) (by omega) (by omega) ?_)
  rw [Int.zero_add, List.drop_zero]
  exact k
theorem n_check_loop {t : List Int} (hb : ∀ x ∈ t, 0 ≤ x ∧ x < 256) (H : mSh h m) (hl : t.length ≤ 30) (v : ∀ i : Nat, i < t.length → hA h (m + 16) (i : Int) = sb (t.getD i 0)) (n : Nat) : ∀ i : Nat, i + n = t.length → (∀ j : Nat, j < i → isD (t.getD j 0) = true) → Q (.inl (some (jI (if (∀ j : Nat, j < t.length → isD (t.getD j 0) = true) then ckOf t else -1)))) h → jWp (d + 1) mX11_check 29 [(0, jR m), (1, jI t.length), (2, jI i)] [] h Q := by
  have di : ∀ i : Nat, i < t.length → (isD (sb (t.getD i 0)) = isD (t.getD i 0)) ∧ (isD (t.getD i 0) = true → sb (t.getD i 0) = t.getD i 0) := fun i hi => by
    have m1 : t.getD i 0 ∈ t := by
      rw [List.getD_eq_getElem?_getD, List.getElem?_eq_getElem hi]
      exact List.getElem_mem _
    have b := hb _ m1
    refine ⟨?_, fun z => sb_id (by have := isD_rg z; omega)⟩
    unfold isD sb
    exact decide_eq_decide.mpr (by split <;> omega)
  induction n with
  | zero =>
    intro i hi g k
    rw [if_pos (fun j hj => g j (by omega))] at k
    refine bX11_check_29 (fun _ _ _ => ⟨fun _ => ⟨H.k, ?_⟩, fun z => by omega⟩)
    rw [H.r818]
    refine n_checkOf H.k818 (by omega) (by rw [H.n818]; omega) (by omega) (fun j hj => ?_) (fun j hj => g j (by omega)) ⟨_, rfl, k⟩
    rw [Int.zero_add, v j hj, (di j hj).2 (g j (by omega))]
  | succ n ih =>
    intro i hi g k
    refine bX11_check_29 (fun _ _ _ => ⟨fun z => by omega, fun z => ⟨H.k, ?_⟩⟩)
    rw [H.r818, H.k818, H.n818, v i (by omega)]
    refine ⟨.refl _, by omega, by omega, fun _ => n_isDigit ⟨_, rfl, fun w => ⟨⟨by omega, by omega⟩, ?_⟩, fun w => ?_⟩⟩
    · have w' := (b2i_ne _).mp w
      rw [(di i (by omega)).1] at w'
      refine ih (i + 1) (by omega) (fun j hj => ?_) k
      by_cases e : j = i
      · rw [e]; exact w'
      · exact g j (by omega)
    · have w' := (b2i_eq _).mp w
      rw [(di i (by omega)).1] at w'
      rw [if_neg (fun q => by have := q i (by omega); rw [w'] at this; exact absurd this (by decide))] at k
      exact k
theorem v_check (hb : ∀ x ∈ s.1.1, 0 ≤ x ∧ x < 256) (H : isMD h m s) (k : ∀ h', mFr m [812, 819] [] h h' → isMD h' m (([], s.1.2), s.2) → Q (.inl (some (jI (checkV s.1.1)))) h') : jCall (d + 1) mX11_check [jR m] h Q := by
  have R := H.2.2.1
  have ll : (s.1.1.map sb).length = s.1.1.length := List.length_map _
  have f1 : mFr m [812, 819] [] h (sI (sI h 812 m 0) 819 m 0) := (mFr.rfl.sI (by decide)).sI (by decide)
  have kk := k _ f1 (md_tape H f1 (by decide) (by decide) (l := []) ⟨by rw [hI_sI, if_pos ⟨.refl _, .refl _⟩]; rfl, by simp, fun i hi => absurd hi (by simp)⟩)
  unfold checkV at kk
  refine bX11_check (fun _ => ⟨H.1.k, ?_⟩)
  rw [hI_sI, if_neg (by omega), R.1, ll]
  refine fun _ => ⟨fun z => ?_, fun z => ⟨fun z2 => ?_, fun z2 => ?_⟩⟩
  · rw [if_neg (by omega)] at kk; exact kk
  · refine n_check_loop hb (f1.sh H.1) (by omega) (fun i hi => ?_) s.1.1.length 0 (by omega) (fun j hj => absurd hj (by omega)) ?_
    · rw [hA_sI, hA_sI, R.2.2 i (by omega), map_getD _ _ hi]
    · have dq := digB_iff (l := s.1.1) (f := 0) (n := s.1.1.length) (by omega)
      simp only [Nat.zero_add, Int.natCast_zero] at dq
      have sg : seg s.1.1 0 s.1.1.length = s.1.1 := by simp [seg]
      rw [sg] at kk
      by_cases q : ∀ j : Nat, j < s.1.1.length → isD (s.1.1.getD j 0) = true
      · rw [if_pos q]
        rw [if_pos ⟨by omega, by omega, dq.mpr q⟩] at kk
        exact kk
      · rw [if_neg q]
        rw [if_neg (fun c => q (dq.mp c.2.2))] at kk
        exact kk
  · rw [if_neg (by omega)] at kk; exact kk
end MU
