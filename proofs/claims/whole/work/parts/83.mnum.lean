/-! THE MODEL: lists, AIs -/
/-- an AI's kin and its family -/
def kinV (a dg : Int) : Int := if hasPt (lineV a dg) = true then 1000000 + a / 10 else 10 * a + dg
def chkK (i : Nat) : Bool := if hasPt (lineV (aN i) (aD i)) = true then decide (310 ≤ aN i / 10 ∧ aN i / 10 ≤ 395) else decide ((aN i < 310 ∨ 395 < aN i) ∧ aD i = (if aN i < 100 then 2 else if aN i < 1000 then 3 else 4))
theorem chkK_all : (List.range 457).all chkK = true := by decide +kernel
theorem tabK {a dg : Int} (h : lineV a dg ≠ -1) : (hasPt (lineV a dg) = true → 310 ≤ a / 10 ∧ a / 10 ≤ 395) ∧ (hasPt (lineV a dg) = false → (a < 310 ∨ 395 < a) ∧ dg = (if a < 100 then 2 else if a < 1000 then 3 else 4)) := by
  have s := ixV_spec (tabB h)
  have t := List.all_eq_true.mp chkK_all (ixV a dg).toNat (List.mem_range.mpr (by omega))
  unfold chkK at t
  rw [Int.toNat_of_nonneg s.1, s.2.2.1, s.2.2.2] at t
  refine ⟨fun z => ?_, fun z => ?_⟩
  · rw [if_pos z] at t; exact of_decide_eq_true t
  · rw [if_neg (by rw [z]; decide)] at t; exact of_decide_eq_true t
theorem kin_fam {a dg b eg : Int} (h : lineV a dg ≠ -1) (h2 : lineV b eg ≠ -1) : kinV a dg = kinV b eg ↔ famV a dg = famV b eg := by
  have t := tabK h
  have u := tabK h2
  have x := tabX h
  have y := tabX h2
  unfold kinV famV
  cases p : hasPt (lineV a dg) <;> cases q : hasPt (lineV b eg)
  · have t2 := t.2 p
    have u2 := u.2 q
    simp only [Bool.false_eq_true, if_false]
    refine ⟨fun e => by omega, fun e => ?_⟩
    rw [e] at t2 ⊢
    rw [t2.2, u2.2]
  · have t2 := t.2 p
    have u2 := u.1 q
    simp only [Bool.false_eq_true, if_false, if_true]
    omega
  · have t2 := t.1 p
    have u2 := u.2 q
    simp only [Bool.false_eq_true, if_false, if_true]
    omega
  · simp only [if_true]
    omega
theorem fam_n {a dg : Int} (h : lineV a dg ≠ -1) {n : Int} (hn : (n < 310 ∨ 395 < n) ∧ (n < 3100 ∨ 3959 < n)) : famV a dg = n ↔ a = n ∧ dg = (if n < 100 then 2 else if n < 1000 then 3 else 4) := by
  have t := tabK h
  unfold famV
  cases p : hasPt (lineV a dg)
  · have t2 := t.2 p
    simp only [Bool.false_eq_true, if_false]
    refine ⟨fun e => ?_, fun e => e.1⟩
    rw [← e]
    exact ⟨rfl, t2.2⟩
  · have t2 := t.1 p
    simp only [if_true]
    omega
def okL (es : List jE) : Prop := ∀ x ∈ es, lineV x.1 x.2.1 ≠ -1
theorem getD_mem {es : List jE} {k : Nat} (h : k < es.length) : es.getD k dE ∈ es := by
  rw [List.getD_eq_getElem?_getD, List.getElem?_eq_getElem h]
  exact List.getElem_mem h
theorem mLst.ok {h : jH} {m : Nat} {a : Int} {es : List jE} (L : mLst h m a es) : okL es := fun x hx => by
  obtain ⟨k, hk, e⟩ := List.getElem_of_mem hx
  have := (L.2.2 k hk).1
  rw [List.getD_eq_getElem?_getD, List.getElem?_eq_getElem hk, Option.getD_some, e] at this
  exact this
theorem mEl.tab {h : jH} {m : Nat} {e : Int} {x : jE} (E : mEl h m e x) (T : mTb h m) : 0 ≤ hA h (m + 12) e ∧ hA h (m + 12) e < 457 ∧ hA h (m + 2) (hA h (m + 12) e) = x.1 ∧ hA h (m + 3) (hA h (m + 12) e) = x.2.1 ∧ hA h (m + 4) (hA h (m + 12) e) = ptV x ∧ hA h (m + 5) (hA h (m + 12) e) = aF (ixV x.1 x.2.1) ∧ hA h (m + 6) (hA h (m + 12) e) = aC (ixV x.1 x.2.1) := by
  obtain ⟨q1, q2, q3, q4, q5, q6⟩ := E
  have t := tabX q1
  have u := T.2.2.1 (ixV x.1 x.2.1) t.1 t.2.1
  rw [q3]
  refine ⟨t.1, t.2.1, u.1.trans t.2.2.1, u.2.1.trans t.2.2.2.1, u.2.2.1.trans ?_, u.2.2.2.1, u.2.2.2.2⟩
  rw [t.2.2.2.2.2.2.2.2.2.2.2.2]
  rfl
section MN
variable {d m : Nat} {h : jH} {Q : jO → jH → Prop}
theorem n_copyAll_loop {a b : Int} {es : List jE} (H : mSh h m) (L : mLst h m a es) (ha : 0 ≤ a ∧ a < 10) (hb : 0 ≤ b ∧ b < 10) (hn : a ≠ b) (n : Nat) : ∀ (k : Nat) (h1 : jH), k + n = es.length → mFr m [] [11, 12, 13, 14, 15] h h1 → (∀ c, hA h1 (m + 11) c = hA h (m + 11) c) → (∀ j : Nat, j < k → mSame h h1 m (20 * a + j) (20 * b + j)) → (∀ e : Int, (e < 20 * b ∨ 20 * b + 20 ≤ e) → mSame h h1 m e e) → (∀ h', mFr m [] [11, 12, 13, 14, 15] h h' → mLst h' m b es → (∀ c (fs : List jE), 0 ≤ c → c < 10 → c ≠ b → mLst h m c fs → mLst h' m c fs) → Q (.inl (some (jI es.length))) h') → jWp (d + 1) mX11_copyAll 2 [(0, jR m), (1, jI a), (2, jI b), (3, jI k)] [] h1 Q := by
  induction n with
  | zero =>
    intro k h1 hk p c u v kk
    have e : k = es.length := by omega
    subst e
    have G := p.sh H
    refine bX11_copyAll_2 (fun _ _ _ _ => ⟨G.k, ?_⟩)
    rw [G.r813, G.k813, G.n813, c a, L.1]
    refine ⟨.refl _, by omega, by omega, fun _ => ⟨fun _ => ⟨by omega, by omega, fun _ => ?_⟩, fun z => absurd (Int.le_refl _) z⟩⟩
    rw [hA_sA, if_pos ⟨.refl _, .refl _⟩]
    have p1 : mFr m [] [11, 12, 13, 14, 15] h1 (sA h1 (m + 11) b es.length) := mFr.rfl.sA (by decide)
    have s : ∀ e, mSame h1 (sA h1 (m + 11) b es.length) m e e := (mFr.rfl.sA (as := [11]) (by decide) : mFr m [] [11] h1 _).same (by decide)
    refine kk _ (p.trans p1) ⟨?_, L.2.1, fun j hj => ((L.2.2 j hj).to (u j hj)).to (s _)⟩ (fun g fs h0 h9 hg F => F.to ?_ (fun j hj => (v _ ?_).trans (s _)))
    · rw [hA_sA, if_pos ⟨.refl _, .refl _⟩]
    · rw [hA_sA, if_neg (fun z => hg z.2)]
      exact c g
    · have := F.2.1
      omega
  | succ n ih =>
    intro k h1 hk p c u v kk
    have G := p.sh H
    have l20 := L.2.1
    refine bX11_copyAll_2 (fun _ _ _ _ => ⟨G.k, ?_⟩)
    rw [G.r813, G.k813, G.n813, c a, L.1]
    refine ⟨.refl _, by omega, by omega, fun _ => ⟨fun z => by omega, fun z => ?_⟩⟩
    refine n_copy G ha hb (by omega) (by omega) hn (fun h2 p2 s2 t2 => ⟨.refl _, ⟨by omega, by omega⟩, ?_⟩)
    refine ih (k + 1) h2 (by omega) (p.trans (p2.mono (by decide) (by decide))) (fun g => (p2.a (by decide) g).trans (c g)) (fun j hj => ?_) (fun e he => (v e he).trans (t2 e (by omega))) kk
    by_cases e : j = k
    · subst e
      exact (v _ (by omega)).trans s2
    · exact (u j (by omega)).trans (t2 _ (by omega))
theorem n_copyAll {a b : Int} {es : List jE} (H : mSh h m) (L : mLst h m a es) (ha : 0 ≤ a ∧ a < 10) (hb : 0 ≤ b ∧ b < 10) (hn : a ≠ b) (k : ∀ h', mFr m [] [11, 12, 13, 14, 15] h h' → mLst h' m b es → (∀ c (fs : List jE), 0 ≤ c → c < 10 → c ≠ b → mLst h m c fs → mLst h' m c fs) → Q (.inl (some (jI es.length))) h') : jCall (d + 1) mX11_copyAll [jR m, jI a, jI b] h Q :=
  bX11_copyAll (fun _ _ _ => n_copyAll_loop H L ha hb hn es.length 0 h (by omega) .rfl (fun _ => .refl _) (fun j hj => absurd hj (by omega)) (fun _ _ => .rfl) k)
theorem n_aiOf_loop {a dg : Int} (H : mSh h m) (T : mTb h m) (n : Nat) : ∀ i : Nat, i + n = 457 → Q (.inl (some (jI (ixF a dg (aNl.drop i) (aDl.drop i) i)))) h → jWp d mX11_aiOf 2 [(0, jR m), (1, jI a), (2, jI dg), (3, jI i)] [] h Q := by
  induction n with
  | zero =>
    intro i hi k
    refine bX11_aiOf_2 (fun _ _ _ _ => ⟨H.k, fun _ => ?_⟩)
    rw [T.1]
    refine ⟨fun _ => ?_, fun z => by omega⟩
    rw [List.drop_eq_nil_of_le (by rw [aNl_len]; omega)] at k
    exact k
  | succ n ih =>
    intro i hi k
    have t := T.2.2.1 i (by omega) (by omega)
    have a1 := aNl_len
    have a2 := aDl_len
    rw [drop_getD (l := aNl) (by omega), drop_getD (l := aDl) (by omega)] at k
    unfold ixF at k
    have eN : aNl.getD i 0 = aN i := by unfold aN; rw [Int.toNat_natCast]
    have eD : aDl.getD i 0 = aD i := by unfold aD; rw [Int.toNat_natCast]
    rw [eN, eD] at k
    have next : ¬ (aN i = a ∧ aD i = dg) → j32 ((i : Int) + 1) ∧ jWp d mX11_aiOf 2 [(0, jR m), (1, jI a), (2, jI dg), (3, jI ((i : Int) + 1))] [] h Q := fun z => by
      rw [if_neg z] at k
      exact ⟨⟨by omega, by omega⟩, ih (i + 1) (by omega) k⟩
    refine bX11_aiOf_2 (fun _ _ _ _ => ⟨H.k, fun _ => ?_⟩)
    rw [T.1, H.r801, H.r802, H.k801, H.k802, H.n801, H.n802, t.1, t.2.1]
    refine ⟨fun z => by omega, fun z => ⟨.refl _, by omega, by omega, fun _ => ⟨fun w => next (fun y => w y.1), fun w => ⟨.refl _, by omega, fun _ => ⟨fun w2 => next (fun y => w2 y.2), fun w2 => ?_⟩⟩⟩⟩⟩
    rw [if_pos ⟨w, w2⟩] at k
    exact k
theorem n_aiOf {a dg : Int} (H : mSh h m) (T : mTb h m) (k : Q (.inl (some (jI (ixV a dg)))) h) : jCall d mX11_aiOf [jR m, jI a, jI dg] h Q :=
  bX11_aiOf (fun _ _ _ => n_aiOf_loop H T 457 0 rfl k)
theorem n_fix2 {a : Int} (k : Q (.inl (some (jI (b2i (fixN a))))) h) : jWp d mX11_isFixed 14 [(2, jI a), (3, jI 2)] [] h Q := by
  have y : (a ≤ 2 ∨ (11 ≤ a ∧ a ≤ 17) ∨ a = 20 ∨ (31 ≤ a ∧ a ≤ 36) ∨ a = 41) → Q (.inl (some (jI 1))) h := fun z => by unfold fixN at k; rw [decide_eq_true z] at k; exact k
  have n : ¬ (a ≤ 2 ∨ (11 ≤ a ∧ a ≤ 17) ∨ a = 20 ∨ (31 ≤ a ∧ a ≤ 36) ∨ a = 41) → Q (.inl (some (jI 0))) h := fun z => by unfold fixN at k; rw [decide_eq_false z] at k; exact k
  refine bX11_isFixed_14 (fun _ _ _ => ⟨fun _ => ?_, fun z => absurd (by decide) z⟩)
  (repeat' (first | intro _ | apply And.intro))
  all_goals first | exact y (by omega) | exact n (by omega)
theorem n_fix {a dg : Int} (h0 : 0 ≤ a) (h1 : 2 ≤ dg) (h2 : dg ≤ 4) (k : Q (.inl (some (jI (b2i (fixV a dg))))) h) : jWp d mX11_isFixed 14 [(2, jI a), (3, jI dg)] [] h Q := by
  unfold fixV at k
  by_cases e : dg = 4
  · subst e
    rw [if_pos rfl] at k
    refine bX11_isFixed_14 (fun _ _ _ => ⟨fun z => absurd z (by decide), fun _ => ⟨h0, ⟨by decide, by decide⟩, ?_⟩⟩)
    refine bX11_isFixed_14 (fun _ _ _ => ⟨fun z => absurd z (by decide), fun _ => ⟨by omega, ⟨by decide, by decide⟩, ?_⟩⟩)
    refine n_fix2 ?_
    rw [show a / 10 / 10 = a / 100 by omega]
    exact k
  · rw [if_neg e] at k
    by_cases e3 : dg = 3
    · subst e3
      rw [if_pos rfl] at k
      exact bX11_isFixed_14 (fun _ _ _ => ⟨fun z => absurd z (by decide), fun _ => ⟨h0, ⟨by decide, by decide⟩, n_fix2 k⟩⟩)
    · rw [if_neg e3] at k
      have e2 : dg = 2 := by omega
      subst e2
      exact n_fix2 k
theorem n_isFixed {i : Int} (H : mSh h m) (T : mTb h m) (h0 : 0 ≤ i) (h1 : i < 457) (k : Q (.inl (some (jI (b2i (fixV (aN i) (aD i)))))) h) : jCall d mX11_isFixed [jR m, jI i] h Q := by
  have t := T.2.2.1 i h0 h1
  have a := (tabA h0 h1).1
  refine bX11_isFixed (fun _ _ => ⟨H.k, ?_⟩)
  rw [H.r801, H.r802, H.k801, H.k802, H.n801, H.n802, t.1, t.2.1]
  exact ⟨.refl _, by omega, by omega, fun _ => ⟨.refl _, by omega, fun _ => n_fix a.2.2.1 a.2.2.2.2.1 a.2.2.2.2.2.1 k⟩⟩
/-- whether the AI of an element is FIXED -/
theorem n_fixE {e : Int} {x : jE} (H : mSh h m) (T : mTb h m) (E : mEl h m e x) (k : Q (.inl (some (jI (b2i (fixE x))))) h) : jCall d mX11_isFixed [jR m, jI (hA h (m + 12) e)] h Q := by
  have u := tabX E.1
  rw [E.2.2.1]
  refine n_isFixed H T u.1 u.2.1 ?_
  rw [u.2.2.1, u.2.2.2.1]
  exact k
theorem n_kin {e : Int} {x : jE} (H : mSh h m) (T : mTb h m) (E : mEl h m e x) (k : Q (.inl (some (jI (kinV x.1 x.2.1)))) h) : jCall d mX11_kin [jR m, jI (hA h (m + 12) e)] h Q := by
  have t := E.tab T
  have u := tabX E.1
  unfold kinV at k
  refine bX11_kin (fun _ _ => ⟨H.k, ?_⟩)
  rw [H.r801, H.r802, H.r803, H.k801, H.k802, H.k803, H.n801, H.n802, H.n803, t.2.2.1, t.2.2.2.1, t.2.2.2.2.1]
  unfold ptV
  refine ⟨.refl _, t.1, by omega, fun _ => ⟨fun z => ⟨.refl _, by omega, fun _ => ⟨by omega, ⟨by omega, by omega⟩, ?_⟩⟩, fun z => ⟨.refl _, by omega, fun _ => ⟨⟨by omega, by omega⟩, .refl _, by omega, fun _ => ⟨⟨by omega, by omega⟩, ?_⟩⟩⟩⟩⟩
  · split at z
    · rename_i p
      rw [if_pos p] at k
      exact k
    · omega
  · split at z
    · omega
    · rename_i p
      rw [if_neg p] at k
      exact k
def hasN (es : List jE) (n dg : Int) : Bool := es.any (fun x => decide (x.1 = n ∧ x.2.1 = dg))
theorem n_has_loop {a n dg : Int} {es : List jE} (H : mSh h m) (T : mTb h m) (L : mLst h m a es) (ha : 0 ≤ a ∧ a < 10) (c : Nat) : ∀ k : Nat, k + c = es.length → Q (.inl (some (jI (b2i (hasN (es.drop k) n dg))))) h → jWp d mX11_has 3 [(0, jR m), (1, jI a), (2, jI n), (3, jI dg), (4, jI k)] [] h Q := by
  have l20 := L.2.1
  induction c with
  | zero =>
    intro k hk kk
    refine bX11_has_3 (fun _ _ _ _ _ => ⟨H.k, ?_⟩)
    rw [H.r813, H.k813, H.n813, L.1]
    refine ⟨.refl _, by omega, by omega, fun _ => ⟨fun _ => ?_, fun z => by omega⟩⟩
    rw [List.drop_eq_nil_of_le (by omega)] at kk
    exact kk
  | succ c ih =>
    intro k hk kk
    have E := L.2.2 k (by omega)
    have t := E.tab T
    rw [dropE (by omega)] at kk
    unfold hasN at kk
    rw [List.any_cons] at kk
    have next : ¬ ((es.getD k dE).1 = n ∧ (es.getD k dE).2.1 = dg) → j32 ((k : Int) + 1) ∧ jWp d mX11_has 3 [(0, jR m), (1, jI a), (2, jI n), (3, jI dg), (4, jI ((k : Int) + 1))] [] h Q := fun z => by
      rw [decide_eq_false z, Bool.false_or] at kk
      exact ⟨⟨by omega, by omega⟩, ih (k + 1) (by omega) kk⟩
    refine bX11_has_3 (fun _ _ _ _ _ => ⟨H.k, ?_⟩)
    rw [H.r813, H.k813, H.n813, L.1, H.r814, H.k814, H.n814, H.r801, H.k801, H.n801, H.r802, H.k802, H.n802, t.2.2.1, t.2.2.2.1]
    refine ⟨.refl _, by omega, by omega, fun _ => ⟨fun z => by omega, fun z => ⟨⟨by omega, by omega⟩, ⟨by omega, by omega⟩, .refl _, by omega, by omega, fun _ => ⟨.refl _, t.1, by omega, fun _ => ⟨fun w => next (fun y => w y.1), fun w => ⟨.refl _, by omega, fun _ => ⟨fun w2 => next (fun y => w2 y.2), fun w2 => ?_⟩⟩⟩⟩⟩⟩⟩
    rw [decide_eq_true ⟨w, w2⟩, Bool.true_or] at kk
    exact kk
theorem n_has {a n dg : Int} {es : List jE} (H : mSh h m) (T : mTb h m) (L : mLst h m a es) (ha : 0 ≤ a ∧ a < 10) (k : Q (.inl (some (jI (b2i (hasN es n dg))))) h) : jCall d mX11_has [jR m, jI a, jI n, jI dg] h Q :=
  bX11_has (fun _ _ _ _ => n_has_loop H T L ha es.length 0 (by omega) k)
theorem n_isItem {a : Int} {es : List jE} (H : mSh h m) (T : mTb h m) (L : mLst h m a es) (ha : 0 ≤ a ∧ a < 10) (k : Q (.inl (some (jI (b2i (hasN es 1 2 || hasN es 2 2))))) h) : jCall (d + 1) mX11_isItem [jR m, jI a] h Q := by
  refine bX11_isItem (fun _ _ => ⟨H.k, n_has H T L ha ⟨_, rfl, fun z => ?_, fun z => ⟨H.k, n_has H T L ha ⟨_, rfl, fun z2 => ?_, fun z2 => ?_⟩⟩⟩⟩)
  · rw [(b2i_ne _).mp z, Bool.true_or] at k; exact k
  · rw [(b2i_eq _).mp z, (b2i_eq _).mp z2] at k; exact k
  · rw [(b2i_eq _).mp z, (b2i_ne _).mp z2] at k; exact k
theorem n_isPiece {a : Int} {es : List jE} (H : mSh h m) (T : mTb h m) (L : mLst h m a es) (ha : 0 ≤ a ∧ a < 10) (k : Q (.inl (some (jI (b2i (hasN es 8006 4 || hasN es 8026 4))))) h) : jCall (d + 1) mX11_isPiece [jR m, jI a] h Q := by
  refine bX11_isPiece (fun _ _ => ⟨H.k, n_has H T L ha ⟨_, rfl, fun z => ?_, fun z => ⟨H.k, n_has H T L ha ⟨_, rfl, fun z2 => ?_, fun z2 => ?_⟩⟩⟩⟩)
  · rw [(b2i_ne _).mp z, Bool.true_or] at k; exact k
  · rw [(b2i_eq _).mp z, (b2i_eq _).mp z2] at k; exact k
  · rw [(b2i_eq _).mp z, (b2i_ne _).mp z2] at k; exact k
end MN
