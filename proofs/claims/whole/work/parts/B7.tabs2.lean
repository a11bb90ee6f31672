/-! THE REFERENCE'S TABLES, BUILT, 2 -/
def parE : Nat → List Int → List jP4
  | n + 1, a :: b :: c :: e :: t => (a, b, c, if e = 1 then 1 else 0) :: parE n t
  | _, _ => []
def grE (g F : Int) : Nat → List Int → List jA5
  | n + 1, lo :: hi :: dg :: most :: t => lisE dg most F g (hi - lo + 1).toNat lo ++ grE g F n t
  | _, _ => []
def grOK : Nat → List Int → Bool
  | n + 1, lo :: hi :: dg :: most :: t => decide ((-10000 ≤ dg ∧ dg ≤ 10000) ∧ (-10000 ≤ most ∧ most ≤ 10000) ∧ hi ≤ 10000 ∧ -10000 ≤ lo ∧ lo ≤ hi + 1) && grOK n t
  | 0, _ => true
  | _, _ => false
def tbM : Nat → List Int → List jA5 → List jP4 → Option (List jA5 × List jP4)
  | _ + 1, [], A, P => some (A, P)
  | f + 1, g :: c :: t, A, P => if 0 ≤ g ∧ 0 ≤ c ∧ 4 * (g + c) ≤ t.length ∧ grOK g.toNat t = true ∧ (A ++ grE c P.length g.toNat t).length ≤ 600 ∧ P.length + c ≤ 120 then tbM f (t.drop (4 * g.toNat + 4 * c.toNat)) (A ++ grE c P.length g.toNat t) (P ++ parE c.toNat (t.drop (4 * g.toNat))) else none
  | _, _, _, _ => none
theorem parE_len : ∀ (n : Nat) (t : List Int), 4 * n ≤ t.length → (parE n t).length = n
  | 0, _ => fun _ => by simp [parE]
  | n + 1, a :: b :: c :: e :: t => fun h => by
    simp only [List.length_cons] at h
    show (parE n t).length + 1 = n + 1
    rw [parE_len n t (by omega)]
  | n + 1, [] => fun h => by simp at h
  | n + 1, [a] => fun h => by simp at h; omega
  | n + 1, [a, b] => fun h => by simp at h; omega
  | n + 1, [a, b, c] => fun h => by simp at h; omega
theorem jRUL_len : jRUL.length = 640 := by decide +kernel
theorem dr1 {p : Nat} {a : Int} {t : List Int} (h : jRUL.drop p = a :: t) : vI jRUL p = a ∧ jRUL.drop (p + 1) = t ∧ p < 640 := by
  have hp : p < jRUL.length := by
    by_cases c : p < jRUL.length
    · exact c
    · rw [List.drop_eq_nil_of_le (by omega)] at h; cases h
  rw [List.drop_eq_getElem_cons hp] at h
  injection h with h1 h2
  have := jRUL_len
  refine ⟨?_, h2, by omega⟩
  unfold vI
  rw [if_pos (by omega), Int.toNat_natCast, List.getD_eq_getElem?_getD, List.getElem?_eq_getElem hp]
  exact h1
theorem dr4 {p : Nat} {a b c e : Int} {t : List Int} (h : jRUL.drop p = a :: b :: c :: e :: t) : vI jRUL p = a ∧ vI jRUL ((p : Int) + 1) = b ∧ vI jRUL ((p : Int) + 2) = c ∧ vI jRUL ((p : Int) + 3) = e ∧ jRUL.drop (p + 4) = t ∧ p + 3 < 640 := by
  have h1 := dr1 h
  have h2 := dr1 h1.2.1
  have h3 := dr1 h2.2.1
  have h4 := dr1 h3.2.1
  exact ⟨h1.1, by rw [← h2.1]; rfl, by rw [← h3.1]; rfl, by rw [← h4.1]; rfl, h4.2.1, h4.2.2⟩
section TC
variable {d : Nat} {Q : jO → jH → Prop} {m : Nat}
theorem hA_n (h : jH) (m : Nat) {a : Nat} (ha : 1 < a) (i v j : Int) : hA (sA h (m + a) i v) (m + 1) j = hA h (m + 1) j := by
  rw [hA_sA, if_neg (by omega)]
theorem n_ptab_loop {A : List jA5} {c0 : Int} (hc0 : c0 ≤ 1000) : ∀ (n : Nat) (c : Int) (p : Nat) (t : List Int) (h : jH) (P : List jP4), c + n = c0 → jRUL.drop p = t → 4 * n ≤ t.length → tB h m A P → P.length + n ≤ 120 → 0 ≤ c → (∀ h', tFr m h h' → tB h' m A (P ++ parE n t) → jWp (d + 1) mX11_tables 2 [(0, jR m), (1, jI ((p + 4 * n : Nat) : Int))] [] h' Q) → jWp (d + 1) mX11_tables 86 [(0, jR m), (1, jI p), (3, jI c0), (4, jI c)] [] h Q
  | 0, c, p, t, h, P => fun ec et hl K lp h0 k => by
    refine bX11_tables_86 (fun _ _ _ _ => ⟨fun _ => ?_, fun z => absurd (by omega) z⟩)
    exact k h .rfl (by simpa [parE] using K)
  | n + 1, c, p, [], h, P => fun ec et hl => by simp at hl
  | n + 1, c, p, [_], h, P => fun ec et hl => by simp at hl; omega
  | n + 1, c, p, [_, _], h, P => fun ec et hl => by simp at hl; omega
  | n + 1, c, p, [_, _, _], h, P => fun ec et hl => by simp at hl; omega
  | n + 1, c, p, x0 :: x1 :: x2 :: x3 :: t, h, P => fun ec et hl K lp h0 k => by
    obtain ⟨v0, v1, v2, v3, dt, pl⟩ := dr4 et
    obtain ⟨S, R, ⟨c1, c2, c3, c4⟩, TA, TP⟩ := K
    have nx : ∀ (w : Int), w = (if x3 = 1 then 1 else 0) → jWp (d + 1) mX11_tables 86 [(0, jR m), (1, jI ((p : Int) + 4)), (3, jI c0), (4, jI (c + 1))] [] (sI (sA (sA (sA (sA h (m + 7) P.length x0) (m + 8) P.length x1) (m + 9) P.length x2) (m + 10) P.length w) 811 m ((P.length : Int) + 1)) Q := fun w ew => by
      have C := cell4 h m (P.length : Int) x0 x1 x2 w
      have f : tFr m h (sI (sA (sA (sA (sA h (m + 7) P.length x0) (m + 8) P.length x1) (m + 9) P.length x2) (m + 10) P.length w) 811 m ((P.length : Int) + 1)) := (((((mFr.rfl.sA (by decide)).sA (by decide)).sA (by decide)).sA (by decide)).sI (by decide))
      simp only [List.length_cons] at hl
      have := n_ptab_loop (A := A) (c0 := c0) hc0 n (c + 1) (p + 4) t _ (P ++ [(x0, x1, x2, w)]) (by omega) dt (by omega) ⟨f.sh S, fun i => ?_, ⟨?_, ?_, c3, ?_⟩, fun i hi => ?_, fun i hi => ?_⟩ (by rw [List.length_append, List.length_singleton]; omega) (by omega) (fun h' f' K' => by
        have e : P ++ parE (n + 1) (x0 :: x1 :: x2 :: x3 :: t) = P ++ [(x0, x1, x2, w)] ++ parE n t := by
          rw [ew]
          show P ++ ((x0, x1, x2, if x3 = 1 then 1 else 0) :: parE n t) = _
          simp
        have := k h' (f.trans f') (by rw [e]; exact K')
        rw [show p + 4 * (n + 1) = p + 4 + 4 * n by omega] at this
        exact this)
      · rw [show ((p + 4 : Nat) : Int) = (p : Int) + 4 by omega] at this
        exact this
      · rw [hA_sI, C.2.2.2.2 (m + 1) (by omega)]; exact R i
      · rw [hI_sI, if_neg (by omega)]; exact c1
      · rw [hI_sI, if_pos ⟨rfl, rfl⟩, List.length_append, List.length_singleton]; omega
      · rw [List.length_append, List.length_singleton]; omega
      · rw [hA_sI, C.2.2.2.2 (m + 2) (by omega), C.2.2.2.2 (m + 3) (by omega), C.2.2.2.2 (m + 4) (by omega), C.2.2.2.2 (m + 5) (by omega), C.2.2.2.2 (m + 6) (by omega)]
        exact TA i hi
      · rw [app5 _ _ _ hi, hA_sI, C.1, C.2.1, C.2.2.1, C.2.2.2.1]
        by_cases cc : i < P.length
        · have d2 : ¬ (i : Int) = (P.length : Int) := by omega
          simp only [if_neg d2, if_pos cc]
          exact TP i cc
        · rw [List.length_append, List.length_singleton] at hi
          have d2 : (i : Int) = (P.length : Int) := by omega
          simp only [if_pos d2, if_neg cc, and_self]
    refine bX11_tables_86 (fun _ _ _ _ => ⟨fun z => absurd z (by omega), fun _ => ⟨S.k, fun _ => ?_⟩⟩)
    simp only [S.r800, S.r807, S.r808, S.r809, S.r810, S.k800, S.k807, S.k808, S.k809, S.k810, S.n800, S.n807, S.n808, S.n809, S.n810, c2, hA_n _ _ (show 1 < 7 by decide), hA_n _ _ (show 1 < 8 by decide), hA_n _ _ (show 1 < 9 by decide), R, v0, v1, v2, v3]
    refine ⟨trivial, by omega, by omega, fun _ => ⟨trivial, by omega, by omega, ⟨by omega, by omega⟩, by omega, by omega, fun _ => ⟨trivial, by omega, ⟨by omega, by omega⟩, by omega, by omega, fun _ => ⟨trivial, by omega, ⟨by omega, by omega⟩, by omega, by omega, fun _ => ⟨fun z => ⟨trivial, by omega, ⟨by omega, by omega⟩, ⟨by omega, by omega⟩, ⟨by omega, by omega⟩, nx 0 (by rw [if_neg z])⟩, fun z => ⟨trivial, by omega, ⟨by omega, by omega⟩, ⟨by omega, by omega⟩, ⟨by omega, by omega⟩, nx 1 (by rw [if_pos z])⟩⟩⟩⟩⟩⟩

theorem n_gtab_loop {P : List jP4} {g0 c0 : Int} (hc0 : c0 ≤ 1000 ∧ g0 ≤ 1000) : ∀ (n : Nat) (c : Int) (p : Nat) (t : List Int) (h : jH) (A : List jA5), c + n = g0 → jRUL.drop p = t → grOK n t = true → tB h m A P → (A ++ grE c0 P.length n t).length ≤ 600 → 0 ≤ c → (∀ h', tFr m h h' → tB h' m (A ++ grE c0 P.length n t) P → jRUL.drop (p + 4 * n) = t.drop (4 * n) → jWp (d + 2) mX11_tables 86 [(0, jR m), (1, jI ((p + 4 * n : Nat) : Int)), (3, jI c0), (4, jI 0)] [] h' Q) → jWp (d + 2) mX11_tables 33 [(0, jR m), (1, jI p), (2, jI g0), (3, jI c0), (4, jI c)] [] h Q
  | 0, c, p, t, h, A => fun ec et ok K la h0 k => by
    refine bX11_tables_33 (fun _ _ _ _ _ => ⟨fun _ => ?_, fun z => absurd (by omega) z⟩)
    exact k h .rfl (by simpa [grE] using K) (by simpa using et)
  | n + 1, c, p, [], h, A => fun ec et ok => by simp [grOK] at ok
  | n + 1, c, p, [_], h, A => fun ec et ok => by simp [grOK] at ok
  | n + 1, c, p, [_, _], h, A => fun ec et ok => by simp [grOK] at ok
  | n + 1, c, p, [_, _, _], h, A => fun ec et ok => by simp [grOK] at ok
  | n + 1, c, p, lo :: hi :: dg :: mo :: t, h, A => fun ec et ok K la h0 k => by
    obtain ⟨v0, v1, v2, v3, dt, pl⟩ := dr4 et
    unfold grOK at ok
    rw [Bool.and_eq_true] at ok
    have o1 := of_decide_eq_true ok.1
    have S := K.1
    have R := K.2.1
    have eg : grE c0 P.length (n + 1) (lo :: hi :: dg :: mo :: t) = lisE dg mo P.length c0 (hi - lo + 1).toNat lo ++ grE c0 P.length n t := rfl
    rw [eg, ← List.append_assoc] at la k
    refine bX11_tables_33 (fun _ _ _ _ _ => ⟨fun z => absurd z (by omega), fun _ => ?_⟩)
    simp only [S.r800, S.k800, S.n800, R, v0, v1, v2, v3]
    refine ⟨S.k, trivial, by omega, by omega, fun _ => ⟨⟨by omega, by omega⟩, by omega, by omega, fun _ => ⟨⟨by omega, by omega⟩, by omega, by omega, fun _ => ⟨⟨by omega, by omega⟩, by omega, by omega, fun _ => ?_⟩⟩⟩⟩
    refine n_listed (d := d) o1.1 o1.2.1 o1.2.2.1 o1.2.2.2 K (by rw [List.length_append] at la; omega) (fun h1 f1 K1 => ⟨rfl, ⟨by omega, by omega⟩, ⟨by omega, by omega⟩, ?_⟩)
    have := n_gtab_loop (P := P) (g0 := g0) (c0 := c0) hc0 n (c + 1) (p + 4) t h1 _ (by omega) dt ok.2 K1 la (by omega) (fun h2 f2 K2 dr => by
      have := k h2 (f1.trans f2) K2 (by
        rw [show p + 4 * (n + 1) = p + 4 + 4 * n by omega, dr, show 4 * (n + 1) = 4 * n + 4 by omega]
        rfl)
      rw [show p + 4 * (n + 1) = p + 4 + 4 * n by omega] at this
      exact this)
    rw [show ((p + 4 : Nat) : Int) = (p : Int) + 4 by omega] at this
    exact this
theorem n_tab_loop : ∀ (f : Nat) (p : Nat) (t : List Int) (h : jH) (A : List jA5) (P : List jP4) (AF : List jA5) (PF : List jP4), jRUL.drop p = t → p ≤ 640 → tB h m A P → tbM f t A P = some (AF, PF) → (∀ h', tFr m h h' → tB h' m AF PF → Q (.inl none) h') → jWp (d + 2) mX11_tables 2 [(0, jR m), (1, jI p)] [] h Q
  | 0, p, t, h, A, P, AF, PF => fun _ _ _ e => by simp [tbM] at e
  | f + 1, p, [], h, A, P, AF, PF => fun et hp K e k => by
    have p6 : 640 ≤ p := by
      have := congrArg List.length et
      rw [List.length_drop, jRUL_len] at this
      simp at this; omega
    have S := K.1
    refine bX11_tables_2 (fun _ _ => ⟨S.k, ?_⟩)
    simp only [S.r800, S.k800, S.n800]
    unfold tbM at e
    injection e with e
    injection e with e1 e2
    subst e1; subst e2
    exact ⟨trivial, fun _ => ⟨fun _ => k h .rfl K, fun z => absurd (by omega) z⟩⟩
  | f + 1, p, [x], h, A, P, AF, PF => fun _ _ _ e => by simp [tbM] at e
  | f + 1, p, g :: c :: t, h, A, P, AF, PF => fun et hp K e k => by
    unfold tbM at e
    split at e
    · rename_i z
      obtain ⟨z1, z2, z3, z4, z5, z6⟩ := z
      have d1 := dr1 et
      have d2 := dr1 d1.2.1
      have S := K.1
      have R := K.2.1
      have v1 : vI jRUL ((p : Int) + 1) = c := by rw [← d2.1]; rfl
      have tl : t.length + p + 2 = 640 := by
        have := congrArg List.length d2.2.1
        rw [List.length_drop, jRUL_len] at this
        omega
      refine bX11_tables_2 (fun _ _ => ⟨S.k, ?_⟩)
      simp only [S.r800, S.k800, S.n800, R, d1.1, v1]
      refine ⟨trivial, fun _ => ⟨fun q => absurd q (by omega), fun _ => ⟨by omega, by omega, fun _ => ⟨⟨by omega, by omega⟩, by omega, by omega, fun _ => ⟨⟨by omega, by omega⟩, ?_⟩⟩⟩⟩⟩
      have := n_gtab_loop (d := d) (Q := Q) (P := P) (g0 := g) (c0 := c) (m := m) ⟨by omega, by omega⟩ g.toNat 0 (p + 2) t h A (by omega) d2.2.1 z4 K z5 (by omega) (fun h1 f1 K1 dr => by
        refine n_ptab_loop (d := d + 1) (c0 := c) (by omega) c.toNat 0 (p + 2 + 4 * g.toNat) _ h1 P (by omega) dr (by rw [List.length_drop]; omega) K1 (by omega) (by omega) (fun h2 f2 K2 => ?_)
        refine n_tab_loop f (p + 2 + 4 * g.toNat + 4 * c.toNat) (t.drop (4 * g.toNat + 4 * c.toNat)) h2 _ _ AF PF ?_ (by omega) K2 e (fun h3 f3 K3 => k h3 (f1.trans (f2.trans f3)) K3)
        rw [← d2.2.1, List.drop_drop, show p + 2 + 4 * g.toNat + 4 * c.toNat = p + 1 + 1 + (4 * g.toNat + 4 * c.toNat) by omega])
      rw [show ((p + 2 : Nat) : Int) = (p : Int) + 2 by omega] at this
      exact this
    · cases e
def chkT : Bool := match tbM 300 jRUL [] [] with
  | some (A, P) => A.map (fun x => x.1) == aNl && A.map (fun x => x.2.1) == aDl && A.map (fun x => x.2.2.1) == aPl && A.map (fun x => x.2.2.2.1) == aFl && A.map (fun x => x.2.2.2.2) == aCl && P.map (fun x => x.1) == pSl && P.map (fun x => x.2.1) == pLl && P.map (fun x => x.2.2.1) == pMl && P.map (fun x => x.2.2.2) == pOl
  | none => false
theorem chkT_ok : chkT = true := by decide +kernel
end TC
