/-! THE REFERENCE'S TABLES, BUILT -/
abbrev jA5 : Type := Int × Int × Int × Int × Int
abbrev jP4 : Type := Int × Int × Int × Int
def z5 : jA5 := (0, 0, 0, 0, 0)
def z4 : jP4 := (0, 0, 0, 0)
def tB (h : jH) (m : Nat) (A : List jA5) (P : List jP4) : Prop := mSh h m ∧ (∀ i : Int, hA h (m + 1) i = vI jRUL i) ∧ (hI h 806 m = A.length ∧ hI h 811 m = P.length ∧ A.length ≤ 600 ∧ P.length ≤ 120) ∧ (∀ i : Nat, i < A.length → hA h (m + 2) (i : Int) = (A.getD i z5).1 ∧ hA h (m + 3) (i : Int) = (A.getD i z5).2.1 ∧ hA h (m + 4) (i : Int) = (A.getD i z5).2.2.1 ∧ hA h (m + 5) (i : Int) = (A.getD i z5).2.2.2.1 ∧ hA h (m + 6) (i : Int) = (A.getD i z5).2.2.2.2) ∧ ∀ i : Nat, i < P.length → hA h (m + 7) (i : Int) = (P.getD i z4).1 ∧ hA h (m + 8) (i : Int) = (P.getD i z4).2.1 ∧ hA h (m + 9) (i : Int) = (P.getD i z4).2.2.1 ∧ hA h (m + 10) (i : Int) = (P.getD i z4).2.2.2
abbrev tFr (m : Nat) (h h' : jH) : Prop := mFr m [806, 811] [2, 3, 4, 5, 6, 7, 8, 9, 10] h h'
section TB
variable {d : Nat} {h : jH} {Q : jO → jH → Prop} {m : Nat} {A : List jA5} {P : List jP4}
theorem cell5 (h : jH) (m : Nat) (i v2 v3 v4 v5 v6 : Int) : (∀ j, hA (sA (sA (sA (sA (sA h (m + 2) i v2) (m + 3) i v3) (m + 4) i v4) (m + 5) i v5) (m + 6) i v6) (m + 2) j = if j = i then v2 else hA h (m + 2) j) ∧ (∀ j, hA (sA (sA (sA (sA (sA h (m + 2) i v2) (m + 3) i v3) (m + 4) i v4) (m + 5) i v5) (m + 6) i v6) (m + 3) j = if j = i then v3 else hA h (m + 3) j) ∧ (∀ j, hA (sA (sA (sA (sA (sA h (m + 2) i v2) (m + 3) i v3) (m + 4) i v4) (m + 5) i v5) (m + 6) i v6) (m + 4) j = if j = i then v4 else hA h (m + 4) j) ∧ (∀ j, hA (sA (sA (sA (sA (sA h (m + 2) i v2) (m + 3) i v3) (m + 4) i v4) (m + 5) i v5) (m + 6) i v6) (m + 5) j = if j = i then v5 else hA h (m + 5) j) ∧ (∀ j, hA (sA (sA (sA (sA (sA h (m + 2) i v2) (m + 3) i v3) (m + 4) i v4) (m + 5) i v5) (m + 6) i v6) (m + 6) j = if j = i then v6 else hA h (m + 6) j) ∧ (∀ b, ¬ (m + 2 ≤ b ∧ b ≤ m + 6) → ∀ j, hA (sA (sA (sA (sA (sA h (m + 2) i v2) (m + 3) i v3) (m + 4) i v4) (m + 5) i v5) (m + 6) i v6) b j = hA h b j) := by
  refine ⟨fun j => ?_, fun j => ?_, fun j => ?_, fun j => ?_, fun j => ?_, fun b hb j => ?_⟩
  · simp [hA_sA]
  · simp [hA_sA]
  · simp [hA_sA]
  · simp [hA_sA]
  · simp [hA_sA]
  · rw [hA_sA, if_neg (by omega), hA_sA, if_neg (by omega), hA_sA, if_neg (by omega), hA_sA, if_neg (by omega), hA_sA, if_neg (by omega)]
theorem cell4 (h : jH) (m : Nat) (i v2 v3 v4 v5 : Int) : (∀ j, hA (sA (sA (sA (sA h (m + 7) i v2) (m + 8) i v3) (m + 9) i v4) (m + 10) i v5) (m + 7) j = if j = i then v2 else hA h (m + 7) j) ∧ (∀ j, hA (sA (sA (sA (sA h (m + 7) i v2) (m + 8) i v3) (m + 9) i v4) (m + 10) i v5) (m + 8) j = if j = i then v3 else hA h (m + 8) j) ∧ (∀ j, hA (sA (sA (sA (sA h (m + 7) i v2) (m + 8) i v3) (m + 9) i v4) (m + 10) i v5) (m + 9) j = if j = i then v4 else hA h (m + 9) j) ∧ (∀ j, hA (sA (sA (sA (sA h (m + 7) i v2) (m + 8) i v3) (m + 9) i v4) (m + 10) i v5) (m + 10) j = if j = i then v5 else hA h (m + 10) j) ∧ (∀ b, ¬ (m + 7 ≤ b ∧ b ≤ m + 10) → ∀ j, hA (sA (sA (sA (sA h (m + 7) i v2) (m + 8) i v3) (m + 9) i v4) (m + 10) i v5) b j = hA h b j) := by
  refine ⟨fun j => ?_, fun j => ?_, fun j => ?_, fun j => ?_, fun b hb j => ?_⟩
  · simp [hA_sA]
  · simp [hA_sA]
  · simp [hA_sA]
  · simp [hA_sA]
  · rw [hA_sA, if_neg (by omega), hA_sA, if_neg (by omega), hA_sA, if_neg (by omega), hA_sA, if_neg (by omega)]
theorem app5 {α : Type} (A : List α) (x z : α) {i : Nat} (h : i < (A ++ [x]).length) : (A ++ [x]).getD i z = if i < A.length then A.getD i z else x := by
  rw [List.length_append, List.length_singleton] at h
  split
  · rename_i c
    simp [List.getD_eq_getElem?_getD, List.getElem?_append_left c]
  · rename_i c
    obtain rfl : i = A.length := by omega
    simp [List.getD_eq_getElem?_getD]
theorem n_ai {a1 a2 a3 a4 : Int} (K : tB h m A P) (hl : A.length < 600) (k : ∀ h', tFr m h h' → tB h' m (A ++ [(a1, a2, a3, (P.length : Int), a4)]) P → Q (.inl none) h') : jCall d mX11_ai [jR m, jI a1, jI a2, jI a3, jI a4] h Q := by
  obtain ⟨S, R, ⟨c1, c2, c3, c4⟩, TA, TP⟩ := K
  have k801 := S.r801
  have k802 := S.r802
  have k803 := S.r803
  have k804 := S.r804
  have k805 := S.r805
  refine bX11_ai (fun _ _ _ _ _ => ⟨S.k, fun _ => ?_⟩)
  rw [k801, k802, k803, k804, k805, c1, c2, S.k801, S.k802, S.k803, S.k804, S.k805, S.n801, S.n802, S.n803, S.n804, S.n805]
  refine ⟨rfl, by omega, by omega, rfl, by omega, rfl, by omega, fun _ => ⟨rfl, by omega, rfl, by omega, ⟨by omega, by omega⟩, ?_⟩⟩
  have C := cell5 h m (A.length : Int) a1 a2 a3 (P.length : Int) a4
  have f : tFr m h (sI (sA (sA (sA (sA (sA h (m + 2) A.length a1) (m + 3) A.length a2) (m + 4) A.length a3) (m + 5) A.length P.length) (m + 6) A.length a4) 806 m ((A.length : Int) + 1)) := ((((((mFr.rfl.sA (by decide)).sA (by decide)).sA (by decide)).sA (by decide)).sA (by decide)).sI (by decide))
  refine k _ f ⟨f.sh S, fun i => ?_, ⟨?_, ?_, ?_, c4⟩, fun i hi => ?_, fun i hi => ?_⟩
  · rw [hA_sI, C.2.2.2.2.2 (m + 1) (by omega)]; exact R i
  · rw [hI_sI, if_pos ⟨rfl, rfl⟩, List.length_append, List.length_singleton]; omega
  · rw [hI_sI, if_neg (by omega)]; exact c2
  · rw [List.length_append, List.length_singleton]; omega
  · rw [app5 _ _ _ hi, hA_sI, C.1, C.2.1, C.2.2.1, C.2.2.2.1, C.2.2.2.2.1]
    by_cases c : i < A.length
    · have c2 : ¬ (i : Int) = (A.length : Int) := by omega
      simp only [if_neg c2, if_pos c]
      exact TA i c
    · rw [List.length_append, List.length_singleton] at hi
      have c2 : (i : Int) = (A.length : Int) := by omega
      simp only [if_pos c2, if_neg c, and_self]
  · rw [hA_sI, C.2.2.2.2.2 (m + 7) (by omega), C.2.2.2.2.2 (m + 8) (by omega), C.2.2.2.2.2 (m + 9) (by omega), C.2.2.2.2.2 (m + 10) (by omega)]
    exact TP i hi
def ptE (a dg F g : Int) : Nat → Int → List jA5
  | 0, _ => []
  | n + 1, p => (10 * a + p, dg + 1, p, F, g) :: ptE a dg F g n (p + 1)
def lisE (dg most F g : Int) : Nat → Int → List jA5
  | 0, _ => []
  | n + 1, a => (if 0 ≤ most then [] else [(a, dg, -1, F, g)]) ++ (ptE a dg F g (most + 1).toNat 0 ++ lisE dg most F g n (a + 1))
theorem n_listed_loop {dg most g : Int} {hi : Int} (r1 : -10000 ≤ dg ∧ dg ≤ 10000) (r2 : -10000 ≤ most ∧ most ≤ 10000) (r3 : hi ≤ 10000) : ∀ (n : Nat) (a : Int) (h : jH) (A : List jA5), a + n = hi + 1 → -10000 ≤ a → tB h m A P → (A ++ lisE dg most P.length g n a).length ≤ 600 → (∀ h', tFr m h h' → tB h' m (A ++ lisE dg most P.length g n a) P → Q (.inl none) h') → jWp (d + 1) mX11_listed 3 [(0, jR m), (2, jI hi), (3, jI dg), (4, jI most), (5, jI g), (6, jI a)] [] h Q
  | 0, a, h, A => fun e h0 K hl k => by
    refine bX11_listed_3 (fun _ _ _ _ _ _ => ⟨fun _ => ?_, fun z => absurd (by omega) z⟩)
    exact k h .rfl (by simpa [lisE] using K)
  | n + 1, a, h, A => fun e h0 K hl k => by
    have loop : ∀ (c : Nat) (p : Int) (h1 : jH) (B : List jA5), p + c = most + 1 ∨ (c = 0 ∧ most < p) → 0 ≤ p → p ≤ 10001 → tB h1 m B P → (B ++ (ptE a dg P.length g c p ++ lisE dg most P.length g n (a + 1))).length ≤ 600 → (∀ h', tFr m h1 h' → tB h' m (B ++ (ptE a dg P.length g c p ++ lisE dg most P.length g n (a + 1))) P → Q (.inl none) h') → jWp (d + 1) mX11_listed 27 [(0, jR m), (2, jI hi), (3, jI dg), (4, jI most), (5, jI g), (6, jI a), (7, jI p)] [] h1 Q := by
      intro c
      induction c with
      | zero =>
        intro p h1 B ec p0 p9 K1 l1 k1
        refine bX11_listed_27 (fun _ _ _ _ _ _ _ => ⟨fun _ => ⟨⟨by omega, by omega⟩, ?_⟩, fun z => absurd (by omega) z⟩)
        exact n_listed_loop r1 r2 r3 n (a + 1) h1 B (by omega) (by omega) K1 l1 k1
      | succ c ih =>
        intro p h1 B ec p0 p9 K1 l1 k1
        have lB : B.length < 600 := by simp [ptE] at l1; omega
        refine bX11_listed_27 (fun _ _ _ _ _ _ _ => ⟨fun z => absurd z (by omega), fun _ => ⟨⟨by omega, by omega⟩, ⟨by omega, by omega⟩, ⟨by omega, by omega⟩, K1.1.k, n_ai K1 lB (fun h2 f2 K2 => ⟨rfl, ⟨by omega, by omega⟩, ?_⟩)⟩⟩)
        have e2 : B ++ (ptE a dg P.length g (c + 1) p ++ lisE dg most P.length g n (a + 1)) = (B ++ [(10 * a + p, dg + 1, p, (P.length : Int), g)]) ++ (ptE a dg P.length g c (p + 1) ++ lisE dg most P.length g n (a + 1)) := by
          show B ++ ((10 * a + p, dg + 1, p, (P.length : Int), g) :: ptE a dg P.length g c (p + 1) ++ _) = _
          simp
        rw [e2] at l1 k1
        exact ih (p + 1) h2 _ (by omega) (by omega) (by omega) K2 l1 (fun h3 f3 K3 => k1 h3 (f2.trans f3) K3)
    have e1 : lisE dg most P.length g (n + 1) a = (if 0 ≤ most then [] else [(a, dg, -1, (P.length : Int), g)]) ++ (ptE a dg P.length g (most + 1).toNat 0 ++ lisE dg most P.length g n (a + 1)) := rfl
    rw [e1] at hl k
    refine bX11_listed_3 (fun _ _ _ _ _ _ => ⟨fun z => absurd z (by omega), fun _ => ⟨fun z => ?_, fun z => ?_⟩⟩)
    · rw [if_pos z, List.nil_append] at hl k
      exact loop (most + 1).toNat 0 h A (by omega) (by omega) (by omega) K hl k
    · rw [if_neg z] at hl k
      rw [← List.append_assoc] at hl k
      have lA : A.length < 600 := by simp at hl; omega
      refine ⟨K.1.k, n_ai K lA (fun h2 f2 K2 => ⟨rfl, ?_⟩)⟩
      exact loop (most + 1).toNat 0 h2 _ (by omega) (by omega) (by omega) K2 hl (fun h3 f3 K3 => k h3 (f2.trans f3) K3)
theorem n_listed {lo hi dg most g : Int} (r1 : -10000 ≤ dg ∧ dg ≤ 10000) (r2 : -10000 ≤ most ∧ most ≤ 10000) (r3 : hi ≤ 10000) (r4 : -10000 ≤ lo ∧ lo ≤ hi + 1) (K : tB h m A P) (hl : (A ++ lisE dg most P.length g (hi - lo + 1).toNat lo).length ≤ 600) (k : ∀ h', tFr m h h' → tB h' m (A ++ lisE dg most P.length g (hi - lo + 1).toNat lo) P → Q (.inl none) h') : jCall (d + 1) mX11_listed [jR m, jI lo, jI hi, jI dg, jI most, jI g] h Q :=
  bX11_listed (fun _ _ _ _ _ _ => n_listed_loop r1 r2 r3 _ lo h A (by omega) r4.1 K hl k)
end TB
