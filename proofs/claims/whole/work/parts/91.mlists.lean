/-! THE MODEL: arranging, shelves -/
theorem ixV_inj {a dg b eg : Int} (h : lineV a dg ≠ -1) (h2 : lineV b eg ≠ -1) : ixV a dg = ixV b eg ↔ (a = b ∧ dg = eg) := by
  have t := tabX h
  have u := tabX h2
  refine ⟨fun e => ?_, fun e => by rw [e.1, e.2]⟩
  rw [e] at t
  exact ⟨t.2.2.1.symm.trans u.2.2.1, t.2.2.2.1.symm.trans u.2.2.2.1⟩
theorem map_dropE {β : Type} (f : jE → β) (es : List jE) {k : Nat} (hk : k < es.length) : (es.drop k).map f = f (es.getD k dE) :: (es.drop (k + 1)).map f := by
  rw [dropE hk, List.map_cons]
section MX
variable {d m : Nat} {h : jH} {Q : jO → jH → Prop} {s : jP} {es fs : List jE}
theorem m_shelf (H : isMD h m s) (gs as : List Nat) (hf : 812 ∈ gs) (i : Int) {P : jO → jH → Prop} (k0 : (i < 0 ∨ 8 ≤ i) → ∀ h', mFr m gs as h h' → isMD h' m s → hI h' 812 m = 1 → P (.inl (some (jI 1))) h') (k1 : 0 ≤ i → i < 8 → ∀ h', mFr m gs as h h' → isMD h' m s → hI h' 812 m = 0 → P (.inl (some (jI 0))) h') : hK h m = 9 ∧ jCall (d + 1) mX11_isNoShelf [jR m, jI i] (sI h 812 m 0) P := by
  have f1 : mFr m gs as h (sI h 812 m 0) := mFr.rfl.sI hf
  have M1 := md_0 H 0
  have M2 := md_0 M1 1
  have g1 : hI (sI h 812 m 0) 812 m = 0 := by rw [hI_sI, if_pos ⟨.refl _, .refl _⟩]
  have g2 : hI (sI (sI h 812 m 0) 812 m 1) 812 m = 1 := by rw [hI_sI, if_pos ⟨.refl _, .refl _⟩]
  refine ⟨H.1.k, bX11_isNoShelf (fun _ _ => ⟨fun z => ⟨H.1.k, n_throwing M1.1 ⟨_, rfl, fun w => absurd w (by decide), fun _ => k0 (Or.inl z) _ (f1.sI hf) M2 g2⟩⟩, fun z => ⟨fun z2 => k1 (by omega) (by omega) _ f1 M1 g1, fun z2 => ⟨H.1.k, n_throwing M1.1 ⟨_, rfl, fun w => absurd w (by decide), fun _ => k0 (by omega) _ (f1.sI hf) M2 g2⟩⟩⟩⟩)⟩
theorem v_shelve {i : Int} (H : isMD h m s) (k0 : (i < 0 ∨ 8 ≤ i) → ∀ h', mFr m [812] [11, 12, 13, 14, 15] h h' → isMD h' m s → hI h' 812 m = 1 → Q (.inl (some (jI (-1)))) h') (k1 : 0 ≤ i → i < 8 → ∀ h', mFr m [812] [11, 12, 13, 14, 15] h h' → isMD h' m (s.1, (s.2.1.1, setS s.2.1.2 i.toNat s.2.1.1), s.2.2) → hI h' 812 m = 0 → Q (.inl (some (jI s.2.1.1.length))) h') : jCall (d + 2) mX11_shelve [jR m, jI i] h Q := by
  refine bX11_shelve (fun _ _ => m_shelf H [812] [11, 12, 13, 14, 15] (by decide) i (fun z h1 f1 M1 g1 => ⟨_, rfl, fun w => absurd w (by decide), fun _ => k0 z h1 f1 M1 g1⟩) (fun z z2 h1 f1 M1 g1 => ⟨_, rfl, fun _ => ⟨⟨by omega, by omega⟩, M1.1.k, ?_⟩, fun w => absurd rfl w⟩))
  have L := M1.2.2.2.2.2.2.1
  refine n_copyAll M1.1 L.1 (by omega) (by omega) (by omega) (fun h2 f2 L2 o2 => ⟨_, rfl, k1 z z2 h2 (f1.trans (f2.mono (by decide) (by decide))) (md_lists M1 f2 (by decide) (by decide) ⟨o2 0 _ (by decide) (by decide) (by omega) L.1, fun j hj => ?_⟩) ((f2.i (by decide)).trans g1)⟩)
  unfold setS
  by_cases e : j = i.toNat
  · rw [if_pos e, e, show (1 : Int) + (i.toNat : Int) = 1 + i by omega]
    exact L2
  · rw [if_neg e]
    exact o2 (1 + j) _ (by omega) (by omega) (by omega) (L.2 j hj)
theorem v_fetch {i : Int} (H : isMD h m s) (k0 : (i < 0 ∨ 8 ≤ i) → ∀ h', mFr m [812] [11, 12, 13, 14, 15] h h' → isMD h' m s → hI h' 812 m = 1 → Q (.inl (some (jI (-1)))) h') (k1 : 0 ≤ i → i < 8 → ∀ h', mFr m [812] [11, 12, 13, 14, 15] h h' → isMD h' m (s.1, (s.2.1.2 i.toNat, s.2.1.2), s.2.2) → hI h' 812 m = 0 → Q (.inl (some (jI (s.2.1.2 i.toNat).length))) h') : jCall (d + 2) mX11_fetch [jR m, jI i] h Q := by
  refine bX11_fetch (fun _ _ => m_shelf H [812] [11, 12, 13, 14, 15] (by decide) i (fun z h1 f1 M1 g1 => ⟨_, rfl, fun w => absurd w (by decide), fun _ => k0 z h1 f1 M1 g1⟩) (fun z z2 h1 f1 M1 g1 => ⟨_, rfl, fun _ => ⟨⟨by omega, by omega⟩, M1.1.k, ?_⟩, fun w => absurd rfl w⟩))
  have L := M1.2.2.2.2.2.2.1
  have Li := L.2 i.toNat (by omega)
  rw [show (1 : Int) + (i.toNat : Int) = 1 + i by omega] at Li
  exact n_copyAll M1.1 Li (by omega) (by omega) (by omega) (fun h2 f2 L2 o2 => ⟨_, rfl, k1 z z2 h2 (f1.trans (f2.mono (by decide) (by decide))) (md_lists M1 f2 (by decide) (by decide) ⟨L2, fun j hj => o2 (1 + j) _ (by omega) (by omega) (by omega) (L.2 j hj)⟩) ((f2.i (by decide)).trans g1)⟩)
/-! same -/
theorem n_same_z {i k : Int} (H : mSh h m) (L : mLst h m 0 es) (hk : 0 ≤ k ∧ k < 1000) (kk : Q (.inl (some (jI 0))) h) : jWp (d + 1) mX11_same 40 [(0, jR m), (1, jI i), (2, jI 0), (3, jI k)] [] h Q := by
  refine bX11_same_40 (fun _ _ _ _ => ⟨H.k, ?_⟩)
  rw [H.r813, H.k813, H.n813, L.1]
  exact ⟨.refl _, by omega, by omega, fun _ => ⟨fun _ => ⟨by decide, kk⟩, fun _ => ⟨fun _ => ⟨by decide, kk⟩, fun w => absurd rfl w⟩⟩⟩
theorem n_same_105z {i k e j : Int} {x : jE} (H : mSh h m) (L : mLst h m 0 es) (hk : 0 ≤ k ∧ k < 20) (E : mEl h m k x) (kk : Q (.inl (some (jI 0))) h) : jWp (d + 1) mX11_same 105 [(0, jR m), (1, jI i), (2, jI 0), (3, jI k), (4, jI e), (5, jI j)] [] h Q := by
  refine bX11_same_105 (fun _ _ _ _ _ _ => ⟨H.k, ?_⟩)
  rw [H.r815, H.k815, H.n815, E.2.2.2.1]
  exact ⟨.refl _, by omega, by omega, fun _ => ⟨fun _ => ⟨⟨by omega, by omega⟩, n_same_z H L (by omega) kk⟩, fun _ => ⟨fun _ => ⟨⟨by omega, by omega⟩, n_same_z H L (by omega) kk⟩, fun w => absurd rfl w⟩⟩⟩
theorem n_same_105 {i k e : Int} {x y : jE} (H : mSh h m) (L : mLst h m 0 es) (hk : 0 ≤ k ∧ k < 20) (he : 0 ≤ e ∧ e < 200) (E : mEl h m k x) (F : mEl h m e y) (el : x.2.2.1.length = y.2.2.1.length) (n : Nat) : ∀ j : Nat, j + n = x.2.2.1.length → (x.2.2.1.drop j = y.2.2.1.drop j → jWp (d + 1) mX11_same 40 [(0, jR m), (1, jI i), (2, jI 1), (3, jI (k + 1))] [] h Q) → (¬ x.2.2.1.drop j = y.2.2.1.drop j → Q (.inl (some (jI 0))) h) → jWp (d + 1) mX11_same 105 [(0, jR m), (1, jI i), (2, jI 1), (3, jI k), (4, jI e), (5, jI j)] [] h Q := by
  have l90 := E.2.1
  induction n with
  | zero =>
    intro j hj k1 k0
    refine bX11_same_105 (fun _ _ _ _ _ _ => ⟨H.k, ?_⟩)
    rw [H.r815, H.k815, H.n815, E.2.2.2.1]
    exact ⟨.refl _, by omega, by omega, fun _ => ⟨fun _ => ⟨⟨by omega, by omega⟩, k1 (by rw [List.drop_of_length_le (by omega), List.drop_of_length_le (by omega)])⟩, fun z => by omega⟩⟩
  | succ n ih =>
    intro j hj k1 k0
    have v1 := E.2.2.2.2.1 j (by omega)
    have v2 := F.2.2.2.2.1 j (by omega)
    rw [drop_getD (l := x.2.2.1) (by omega), drop_getD (l := y.2.2.1) (by omega)] at k1 k0
    refine bX11_same_105 (fun _ _ _ _ _ _ => ⟨H.k, ?_⟩)
    rw [H.r815, H.k815, H.n815, E.2.2.2.1, H.r817, H.k817, H.n817, v1, v2]
    refine ⟨.refl _, by omega, by omega, fun _ => ⟨fun z => by omega, fun z => ⟨fun w => absurd w (by decide), fun _ => ⟨⟨by omega, by omega⟩, ⟨by omega, by omega⟩, .refl _, by omega, by omega, fun _ => ⟨⟨by omega, by omega⟩, ⟨by omega, by omega⟩, by omega, by omega, fun _ => ⟨fun w => ⟨⟨by omega, by omega⟩, ?_⟩, fun w => ⟨⟨by omega, by omega⟩, ?_⟩⟩⟩⟩⟩⟩⟩
    · exact n_same_105z H L hk E (k0 (fun q => w (List.cons.inj q).1))
    · exact ih (j + 1) (by omega) (fun q => k1 (by rw [w, q])) (fun q => k0 (fun c => q (List.cons.inj c).2))
theorem n_same_40 {i : Int} (H : mSh h m) (T : mTb h m) (L : mLst h m 0 es) (hi : 0 ≤ i ∧ i < 8) (F : mLst h m (1 + i) fs) (el : es.length = fs.length) (n : Nat) : ∀ k : Nat, k + n = es.length → ((es.drop k).map keyE = (fs.drop k).map keyE → Q (.inl (some (jI 1))) h) → (¬ (es.drop k).map keyE = (fs.drop k).map keyE → Q (.inl (some (jI 0))) h) → jWp (d + 1) mX11_same 40 [(0, jR m), (1, jI i), (2, jI 1), (3, jI k)] [] h Q := by
  have l20 := L.2.1
  induction n with
  | zero =>
    intro k hk k1 k0
    refine bX11_same_40 (fun _ _ _ _ => ⟨H.k, ?_⟩)
    rw [H.r813, H.k813, H.n813, L.1]
    exact ⟨.refl _, by omega, by omega, fun _ => ⟨fun _ => ⟨by decide, k1 (by rw [List.drop_of_length_le (by omega), List.drop_of_length_le (by omega)])⟩, fun z => by omega⟩⟩
  | succ n ih =>
    intro k hk k1 k0
    have E := L.el (i := k) (by omega) (by omega)
    rw [Int.toNat_natCast] at E
    have G := F.2.2 k (by omega)
    rw [map_dropE keyE es (by omega), map_dropE keyE fs (by omega)] at k1 k0
    generalize es.getD k dE = x at *
    generalize fs.getD k dE = y at *
    have l90 := E.2.1
    have m90 := G.2.1
    have ke : keyE x = keyE y ↔ x.1 = y.1 ∧ x.2.1 = y.2.1 ∧ x.2.2.1 = y.2.2.1 := by
      unfold keyE
      rw [Prod.mk.injEq, Prod.mk.injEq]
    refine bX11_same_40 (fun _ _ _ _ => ⟨H.k, ?_⟩)
    rw [H.r813, H.k813, H.n813, L.1, H.r814, H.k814, H.n814, H.r815, H.k815, H.n815, E.2.2.1, G.2.2.1, E.2.2.2.1, G.2.2.2.1]
    refine ⟨.refl _, by omega, by omega, fun _ => ⟨fun z => by omega, fun z => ⟨fun w => absurd w (by decide), fun _ => ⟨⟨by omega, by omega⟩, ⟨by omega, by omega⟩, ⟨by omega, by omega⟩, .refl _, by omega, by omega, fun _ => ⟨by omega, by omega, fun _ => ⟨fun w => ?_, fun w => ⟨.refl _, by omega, fun _ => ⟨by omega, fun _ => ⟨fun w2 => ?_, fun w2 => ?_⟩⟩⟩⟩⟩⟩⟩⟩⟩
    · exact n_same_105z H L (by omega) E (k0 (fun q => by
        have := ke.mp (List.cons.inj q).1
        exact w (by rw [this.1, this.2.1])))
    · exact n_same_105z H L (by omega) E (k0 (fun q => by
        have := ke.mp (List.cons.inj q).1
        exact w2 (by rw [this.2.2])))
    · have ai := (ixV_inj E.1 G.1).mp w
      refine n_same_105 (k := k) (e := 20 * (1 + i) + k) H L (by omega) (by omega) E G (by omega) x.2.2.1.length 0 (by omega) (fun q => ih (k + 1) (by omega) (fun q2 => k1 ?_) (fun q2 => k0 ?_)) (fun q => k0 ?_)
      · rw [q2, ke.mpr ⟨ai.1, ai.2, by simpa using q⟩]
      · exact fun c => q2 (List.cons.inj c).2
      · exact fun c => q (by rw [List.drop_zero, List.drop_zero]; exact (ke.mp (List.cons.inj c).1).2.2)
theorem v_same {i : Int} (H : isMD h m s) (k0 : (i < 0 ∨ 8 ≤ i) → ∀ h', mFr m [812] [] h h' → isMD h' m s → hI h' 812 m = 1 → Q (.inl (some (jI 0))) h') (k1 : 0 ≤ i → i < 8 → ∀ h', mFr m [812] [] h h' → isMD h' m s → hI h' 812 m = 0 → Q (.inl (some (jI (b2i (decide (s.2.1.1.map keyE = (s.2.1.2 i.toNat).map keyE)))))) h') : jCall (d + 2) mX11_same [jR m, jI i] h Q := by
  refine bX11_same (fun _ _ => m_shelf H [812] [] (by decide) i (fun z h1 f1 M1 g1 => ⟨_, rfl, fun w => absurd w (by decide), fun _ => k0 z h1 f1 M1 g1⟩) (fun z z2 h1 f1 M1 g1 => ⟨_, rfl, fun _ => ⟨M1.1.k, ?_⟩, fun w => absurd rfl w⟩))
  have kk := k1 z z2 h1 f1 M1 g1
  have L := M1.2.2.2.2.2.2.1
  have Li := L.2 i.toNat (by omega)
  rw [show (1 : Int) + (i.toNat : Int) = 1 + i by omega] at Li
  generalize s.2.1.2 i.toNat = fs at *
  rw [M1.1.r813, M1.1.k813, M1.1.n813, L.1.1, Li.1]
  refine ⟨.refl _, by omega, by omega, fun _ => ⟨⟨by omega, by omega⟩, by omega, by omega, fun _ => ⟨fun w => ?_, fun w => ?_⟩⟩⟩
  · have : ¬ s.2.1.1.map keyE = fs.map keyE := fun e => w (by have := congrArg List.length e; rw [List.length_map, List.length_map] at this; omega)
    rw [decide_eq_false this] at kk
    exact n_same_z M1.1 L.1 (by decide) kk
  · refine n_same_40 M1.1 M1.2.1 L.1 ⟨z, z2⟩ Li (by omega) s.2.1.1.length 0 (by omega) (fun q => ?_) (fun q => ?_)
    · rw [List.drop_zero, List.drop_zero] at q
      rw [decide_eq_true q] at kk
      exact kk
    · rw [List.drop_zero, List.drop_zero] at q
      rw [decide_eq_false q] at kk
      exact kk
/-! arrange -/
def mPre (h : jH) (m : Nat) (ps : List jE) : Prop := ∀ k : Nat, k < ps.length → mEl h m (180 + k) (ps.getD k dE)
theorem mPre.snoc {ps : List jE} {h1 : jH} {e : Int} {x : jE} (P : mPre h m ps) (E : mEl h m e x) (s1 : mSame h h1 m e (180 + ps.length)) (s2 : ∀ e : Int, e ≠ 180 + ps.length → mSame h h1 m e e) : mPre h1 m (ps ++ [x]) := fun k hk => by
  rw [List.length_append] at hk
  simp only [List.length_cons, List.length_nil] at hk
  by_cases c : k < ps.length
  · rw [List.getD_eq_getElem?_getD, List.getElem?_append_left c, ← List.getD_eq_getElem?_getD]
    exact (P k c).to (s2 _ (by omega))
  · have ek : k = ps.length := by omega
    subst ek
    have : (ps ++ [x]).getD ps.length dE = x := by simp
    rw [this]
    exact E.to s1
/-- the other lists stay -/
def mOth (h h' : jH) (m : Nat) : Prop := ∀ c (gs : List jE), 0 ≤ c → c < 9 → mLst h m c gs → mLst h' m c gs
theorem mOth.rfl : mOth h h m := fun _ _ _ _ L => L
theorem mOth.trans {h1 h2 : jH} (p : mOth h h1 m) (q : mOth h1 h2 m) : mOth h h2 m := fun c gs h0 h9 L => q c gs h0 h9 (p c gs h0 h9 L)
theorem mOth.cp {h1 : jH} {e : Int} (f : mFr m [] [12, 13, 14, 15] h h1) (he : 180 ≤ e) (s2 : ∀ e' : Int, e' ≠ e → mSame h h1 m e' e') : mOth h h1 m := fun c gs h0 h9 L => L.to (f.a (by decide) c) (fun k hk => s2 _ (by have := L.2.1; omega))
theorem n_arr_19 {w : Int} (hw : w = 0 ∨ w = 1) (n : Nat) : ∀ (k : Nat) (h : jH) (ps : List jE) (c : Int), k + n = es.length → mSh h m → mTb h m → mLst h m 0 es → mPre h m ps → ps.length + ((es.drop k).filter (fun x => fixE x == decide (w = 0))).length ≤ 20 → 0 ≤ c → c ≤ 100 - n → (∀ h', mFr m [] [12, 13, 14, 15] h h' → mOth h h' m → mPre h' m (ps ++ (es.drop k).filter (fun x => fixE x == decide (w = 0))) → jWp (d + 1) mX11_arrange 11 [(0, jR m), (1, jI (ps ++ (es.drop k).filter (fun x => fixE x == decide (w = 0))).length), (2, jI (c + movF (fun i => fixE (es.getD i dE) == decide (w = 0)) n k ps.length)), (3, jI (w + 1))] [] h' Q) → jWp (d + 1) mX11_arrange 19 [(0, jR m), (1, jI ps.length), (2, jI c), (3, jI w), (4, jI k)] [] h Q := by
  induction n with
  | zero =>
    intro k h ps c hk H T L P hl c0 c1 kk
    refine bX11_arrange_19 (fun _ _ _ _ _ => ⟨H.k, ?_⟩)
    rw [H.r813, H.k813, H.n813, L.1]
    have := kk h .rfl .rfl
    rw [List.drop_of_length_le (by omega), List.filter_nil, List.append_nil] at this
    simp only [movF, Int.add_zero] at this
    exact ⟨.refl _, by omega, by omega, fun _ => ⟨fun _ => ⟨⟨by omega, by omega⟩, this P⟩, fun z => by omega⟩⟩
  | succ n ih =>
    intro k h ps c hk H T L P hl c0 c1 kk
    have l20 := L.2.1
    have E := L.el (i := k) (by omega) (by omega)
    rw [Int.toNat_natCast] at E
    rw [dropE (by omega), List.filter_cons] at hl kk
    simp only [movF] at kk
    have skip : (fixE (es.getD k dE) == decide (w = 0)) = false → j32 ((k : Int) + 1) ∧ jWp (d + 1) mX11_arrange 19 [(0, jR m), (1, jI ps.length), (2, jI c), (3, jI w), (4, jI ((k : Int) + 1))] [] h Q := fun g => by
      simp only [g, Bool.false_eq_true, if_false] at hl kk
      exact ⟨⟨by omega, by omega⟩, ih (k + 1) h ps c (by omega) H T L P hl c0 (by omega) kk⟩
    have copy : (fixE (es.getD k dE) == decide (w = 0)) = true → ∀ c' : Int, c' = c + (if ps.length = k then 0 else 1) → hK h m = 9 ∧ jCall d mX11_copy [jR m, jI 0, jI k, jI 9, jI ps.length] h (fun o h72 => o = .inl none ∧ j32 ((ps.length : Int) + 1) ∧ j32 ((k : Int) + 1) ∧ jWp (d + 1) mX11_arrange 19 [(0, jR m), (1, jI ((ps.length : Int) + 1)), (2, jI c'), (3, jI w), (4, jI ((k : Int) + 1))] [] h72 Q) := fun g c' ec => by
      simp only [g, if_true, List.length_cons] at hl kk
      refine ⟨H.k, n_copy H (by decide) (by decide) (by omega) (by omega) (by decide) (fun h1 f1 s1 s2 => ⟨rfl, ⟨by omega, by omega⟩, ⟨by omega, by omega⟩, ?_⟩)⟩
      rw [show (20 : Int) * 0 + k = k by omega, show (20 : Int) * 9 + (ps.length : Int) = 180 + ps.length by omega] at s1
      rw [show (20 : Int) * 9 + (ps.length : Int) = 180 + ps.length by omega] at s2
      have O1 := mOth.cp f1 (by omega) s2
      have pl : ((ps ++ [es.getD k dE]).length : Int) = ps.length + 1 := by simp
      have := ih (k + 1) h1 (ps ++ [es.getD k dE]) c' (by omega) (f1.sh H) (f1.tb T (by decide)) (O1 0 es (by decide) (by decide) L) (P.snoc E s1 s2) (by rw [List.length_append]; simp only [List.length_cons, List.length_nil]; omega) (by subst ec; split <;> omega) (by subst ec; split <;> omega) (fun h' p o P' => ?_)
      · rw [pl] at this
        exact this
      · have q := kk h' (f1.trans p) (O1.trans o)
        rw [List.append_assoc, List.singleton_append] at P' ⊢
        have q2 := q P'
        rw [ec]
        have e3 : (ps ++ [es.getD k dE]).length = ps.length + 1 := by simp
        rw [e3, Int.add_assoc]
        exact q2
    refine bX11_arrange_19 (fun _ _ _ _ _ => ⟨H.k, ?_⟩)
    rw [H.r813, H.k813, H.n813, L.1, H.r814, H.k814, H.n814]
    refine ⟨.refl _, by omega, by omega, fun _ => ⟨fun z => by omega, fun z => ⟨.refl _, by omega, by omega, fun _ => n_fixE H T E ⟨_, rfl, fun w0 => ⟨fun v => ?_, fun v => ?_⟩, fun w0 => ⟨fun v => ?_, fun v => ?_⟩⟩⟩⟩⟩
    · have g : (fixE (es.getD k dE) == decide (w = 0)) = true := by rw [(b2i_eq _).mp v, decide_eq_false w0]; rfl
      exact ⟨fun y => copy g _ (by rw [if_pos (by omega)]; omega), fun y => ⟨⟨by omega, by omega⟩, copy g _ (by rw [if_neg (by omega)])⟩⟩
    · have g : (fixE (es.getD k dE) == decide (w = 0)) = false := by rw [(b2i_ne _).mp v, decide_eq_false w0]; rfl
      exact skip g
    · have fx : fixE (es.getD k dE) = true := (b2i_ne _).mp (by rw [v]; decide)
      have g : (fixE (es.getD k dE) == decide (w = 0)) = true := by rw [fx, decide_eq_true w0]; rfl
      exact ⟨fun y => copy g _ (by rw [if_pos (by omega)]; omega), fun y => ⟨⟨by omega, by omega⟩, copy g _ (by rw [if_neg (by omega)])⟩⟩
    · have g : (fixE (es.getD k dE) == decide (w = 0)) = false := by
        have : fixE (es.getD k dE) = false := by
          cases q : fixE (es.getD k dE)
          · rfl
          · rw [q] at v; exact absurd rfl v
        rw [this, decide_eq_true w0]; rfl
      exact skip g
theorem rngF_len (es : List jE) (v : Bool) : ∀ n k : Nat, k + n = es.length → ((List.range' k n).filter (fun i => fixE (es.getD i dE) == v)).length = ((es.drop k).filter (fun x => fixE x == v)).length
  | 0, k => fun h => by
    rw [List.drop_of_length_le (by omega)]
    rfl
  | n + 1, k => fun h => by
    have ih := rngF_len es v n (k + 1) (by omega)
    rw [dropE (by omega), List.range'_succ, List.filter_cons, List.filter_cons]
    split
    · rw [List.length_cons, List.length_cons, ih]
    · exact ih
theorem filt_len (f : jE → Bool) : ∀ es : List jE, (es.filter f).length + (es.filter (fun x => !f x)).length = es.length
  | [] => rfl
  | x :: t => by
    have := filt_len f t
    rw [List.filter_cons, List.filter_cons]
    cases f x <;> simp <;> omega
theorem v_arrange (H : isMD h m s) (k : ∀ h', mFr m [812] [11, 12, 13, 14, 15] h h' → isMD h' m (s.1, (arrE s.2.1.1, s.2.1.2), s.2.2) → Q (.inl (some (jI (arrM s.2.1.1)))) h') : jCall (d + 2) mX11_arrange [jR m] h Q := by
  have M1 := md_0 H 0
  have f0 : mFr m [812] [11, 12, 13, 14, 15] h (sI h 812 m 0) := mFr.rfl.sI (by decide)
  have L := M1.2.2.2.2.2.2.1
  have l20 := L.1.2.1
  have fl := filt_len fixE s.2.1.1
  have e1 : s.2.1.1.filter (fun x => fixE x == decide ((0 : Int) = 0)) = s.2.1.1.filter fixE := by simp
  have e2 : s.2.1.1.filter (fun x => fixE x == decide ((1 : Int) = 0)) = s.2.1.1.filter (fun x => !fixE x) := by simp
  have mr := movF_rg (fun i => fixE (s.2.1.1.getD i dE) == decide ((0 : Int) = 0)) s.2.1.1.length 0 ([] : List jE).length
  refine bX11_arrange (fun _ => ⟨H.1.k, ?_⟩)
  refine bX11_arrange_11 (fun _ _ _ _ => ⟨fun z => absurd z (by decide), fun _ => ?_⟩)
  refine n_arr_19 (w := 0) (Or.inl rfl) s.2.1.1.length 0 _ [] 0 (by omega) M1.1 M1.2.1 L.1 (fun j hj => absurd hj (by simp)) (by rw [List.drop_zero, e1]; simp; omega) (by omega) (by omega) (fun h1 p1 o1 P1 => ?_)
  rw [List.drop_zero, e1, List.nil_append] at P1 ⊢
  refine bX11_arrange_11 (fun _ _ _ _ => ⟨fun z => absurd z (by decide), fun _ => ?_⟩)
  have L1 := o1 0 _ (by decide) (by decide) L.1
  refine n_arr_19 (w := 1) (Or.inr rfl) s.2.1.1.length 0 h1 _ _ (by omega) (p1.sh M1.1) (p1.tb M1.2.1 (by decide)) L1 P1 (by rw [List.drop_zero, e2]; omega) (by omega) (by omega) (fun h2 p2 o2 P2 => ?_)
  rw [List.drop_zero, e2] at P2 ⊢
  have ea : s.2.1.1.filter fixE ++ s.2.1.1.filter (fun x => !fixE x) = arrE s.2.1.1 := rfl
  have al : (arrE s.2.1.1).length = s.2.1.1.length := by rw [← ea, List.length_append]; exact fl
  rw [ea] at P2 ⊢
  have p12 := p1.trans p2
  have H2 := p12.sh M1.1
  have o12 := o1.trans o2
  refine bX11_arrange_11 (fun _ _ _ _ => ⟨fun _ => ⟨H2.k, ?_⟩, fun z => absurd (by decide) z⟩)
  rw [H2.r813, H2.k813, H2.n813]
  refine ⟨.refl _, by decide, by decide, ?_⟩
  have p3 : mFr m [] [11] h2 (sA h2 (m + 11) 9 (arrE s.2.1.1).length) := mFr.rfl.sA (by decide)
  have L9 : mLst (sA h2 (m + 11) 9 (arrE s.2.1.1).length) m 9 (arrE s.2.1.1) := ⟨by rw [hA_sA, if_pos ⟨.refl _, .refl _⟩], by omega, fun j hj => by
    rw [show (20 : Int) * 9 + j = 180 + j by omega]
    exact (P2 j hj).to (p3.same (by decide) _)⟩
  have o3 : mOth h2 (sA h2 (m + 11) 9 (arrE s.2.1.1).length) m := fun c gs h0 h9 G => G.to (by rw [hA_sA, if_neg (by omega)]) (fun j _ => p3.same (by decide) _)
  refine n_copyAll (p3.sh H2) L9 (by decide) (by decide) (by decide) (fun h4 f4 L4 o4 => ⟨_, rfl, ?_⟩)
  have ff : mFr m [812] [11, 12, 13, 14, 15] h h4 := f0.trans (((p12.mono (by decide) (by decide)).trans (p3.mono (by decide) (by decide))).trans (f4.mono (by decide) (by decide)))
  have kk := k h4 ff (md_lists H ff (by decide) (by decide) ⟨L4, fun j hj => o4 _ _ (by omega) (by omega) (by omega) (o3 _ _ (by omega) (by omega) (o12 _ _ (by omega) (by omega) (L.2 j hj)))⟩)
  have em : arrM s.2.1.1 = 0 + movF (fun i => fixE (s.2.1.1.getD i dE) == decide ((0 : Int) = 0)) s.2.1.1.length 0 0 + movF (fun i => fixE (s.2.1.1.getD i dE) == decide ((1 : Int) = 0)) s.2.1.1.length 0 (s.2.1.1.filter fixE).length := by
    unfold arrM
    have rl := rngF_len s.2.1.1 true s.2.1.1.length 0 (by omega)
    rw [List.drop_zero] at rl
    have e1' : s.2.1.1.filter (fun x => fixE x == true) = s.2.1.1.filter fixE := by simp
    rw [rl, e1', Int.zero_add]
    rfl
  rw [em] at kk
  exact kk
/-! join -/
theorem n_join_49 {i : Int} (hi : 0 ≤ i ∧ i < 8) (hl : es.length + fs.length ≤ 20) (n : Nat) : ∀ (k : Nat) (h : jH), k + n = fs.length → mSh h m → mTb h m → mLst h m 0 es → mLst h m (1 + i) fs → mPre h m (es ++ fs.take k) → (∀ h', mFr m [] [11, 12, 13, 14, 15] h h' → mOth h h' m → mLst h' m 9 (es ++ fs) → jWp (d + 1) mX11_join 95 [(0, jR m), (2, jI ((es.length : Int) + fs.length)), (3, jI 0)] [] h' Q) → jWp (d + 1) mX11_join 49 [(0, jR m), (1, jI i), (2, jI ((es.length : Int) + fs.length)), (3, jI k)] [] h Q := by
  induction n with
  | zero =>
    intro k h hk H T L F P kk
    refine bX11_join_49 (fun _ _ _ _ => ⟨H.k, ⟨by omega, by omega⟩, ?_⟩)
    rw [H.r813, H.k813, H.n813, F.1]
    refine ⟨.refl _, by omega, by omega, fun _ => ⟨fun _ => ⟨by decide, by decide, ?_⟩, fun z => by omega⟩⟩
    have p3 : mFr m [] [11] h (sA h (m + 11) 9 ((es.length : Int) + fs.length)) := mFr.rfl.sA (by decide)
    rw [List.take_of_length_le (by omega)] at P
    refine kk _ (p3.mono (by decide) (by decide)) (fun c gs h0 h9 G => G.to (by rw [hA_sA, if_neg (by omega)]) (fun j _ => p3.same (by decide) _)) ⟨?_, by rw [List.length_append]; omega, fun j hj => ?_⟩
    · rw [hA_sA, if_pos ⟨.refl _, .refl _⟩, List.length_append]; omega
    · rw [show (20 : Int) * 9 + j = 180 + j by omega]
      exact (P j hj).to (p3.same (by decide) _)
  | succ n ih =>
    intro k h hk H T L F P kk
    have pl : (es ++ fs.take k).length = es.length + k := by rw [List.length_append, List.length_take]; omega
    have E := F.2.2 k (by omega)
    refine bX11_join_49 (fun _ _ _ _ => ⟨H.k, ⟨by omega, by omega⟩, ?_⟩)
    rw [H.r813, H.k813, H.n813, F.1, L.1]
    refine ⟨.refl _, by omega, by omega, fun _ => ⟨fun z => by omega, fun z => ⟨by decide, by decide, fun _ => ⟨⟨by omega, by omega⟩, n_copy H (by omega) (by decide) (by omega) (by omega) (by omega) (fun h1 f1 s1 s2 => ⟨rfl, ⟨by omega, by omega⟩, ?_⟩)⟩⟩⟩⟩
    rw [show (20 : Int) * 9 + ((es.length : Int) + k) = 180 + ((es ++ fs.take k).length : Int) by rw [pl]; omega] at s1 s2
    have O1 := mOth.cp f1 (by omega) s2
    refine ih (k + 1) h1 (by omega) (f1.sh H) (f1.tb T (by decide)) (O1 _ _ (by decide) (by decide) L) (O1 _ _ (by omega) (by omega) F) ?_ (fun h' p o L' => kk h' ((f1.mono (by decide) (by decide)).trans p) (O1.trans o) L')
    have et : fs.take (k + 1) = fs.take k ++ [fs.getD k dE] := by
      rw [List.take_succ, List.getElem?_eq_getElem (by omega), List.getD_eq_getElem?_getD, List.getElem?_eq_getElem (by omega)]
      rfl
    rw [et, ← List.append_assoc]
    exact P.snoc E s1 s2
theorem n_join_95 {gs : List jE} (hl : gs.length ≤ 20) (H : mSh h m) (T : mTb h m) (L : mLst h m 9 gs) (n : Nat) : ∀ k : Nat, k + n = gs.length → (allN (togB gs) n k = true → ∀ h', mFr m [] [11, 12, 13, 14, 15] h h' → mLst h' m 0 gs → (∀ c (es : List jE), 0 < c → c < 9 → mLst h m c es → mLst h' m c es) → Q (.inl (some (jI gs.length))) h') → (allN (togB gs) n k = false → Q (.inl (some (jI (-1)))) h) → jWp (d + 3) mX11_join 95 [(0, jR m), (2, jI gs.length), (3, jI k)] [] h Q := by
  induction n with
  | zero =>
    intro k hk k1 k0
    exact bX11_join_95 (fun _ _ _ => ⟨fun _ => ⟨H.k, n_copyAll H L (by decide) (by decide) (by decide) (fun h2 f2 L2 o2 => ⟨_, rfl, k1 rfl h2 f2 L2 (fun c es h0 h9 G => o2 c es (by omega) (by omega) (by omega) G)⟩)⟩, fun z => by omega⟩)
  | succ n ih =>
    intro k hk k1 k0
    simp only [allN] at k1 k0
    unfold togB at k1 k0
    have E := L.2.2 k (by omega)
    rw [show (20 : Int) * 9 + k = 180 + k by omega] at E
    refine bX11_join_95 (fun _ _ _ => ⟨fun z => by omega, fun z => ⟨H.k, n_isTwice H T L (by decide) (by omega) ⟨_, rfl, fun w => ?_, fun w => ⟨H.k, ⟨by omega, by omega⟩, ?_⟩⟩⟩⟩)
    · rw [(b2i_ne _).mp w] at k0
      exact k0 rfl
    · rw [(b2i_eq _).mp w] at k1 k0
      rw [H.r814, H.k814, H.n814]
      refine ⟨.refl _, by omega, by omega, fun _ => n_wants H T L (by decide) E ⟨_, rfl, fun v => ⟨⟨by omega, by omega⟩, ?_⟩, fun v => ?_⟩⟩
      · have mw := metW_eq (es := gs) (k := k) (by omega) E.1
        rw [← mw] at v
        rw [(b2i_ne _).mp v] at k1 k0
        exact ih (k + 1) (by omega) k1 k0
      · have mw := metW_eq (es := gs) (k := k) (by omega) E.1
        rw [← mw] at v
        rw [(b2i_eq _).mp v] at k0
        exact k0 rfl
theorem v_join {i : Int} (H : isMD h m s) (k0 : (i < 0 ∨ 8 ≤ i) → ∀ h', mFr m [812] [11, 12, 13, 14, 15] h h' → isMD h' m s → hI h' 812 m = 1 → Q (.inl (some (jI (-1)))) h') (k1 : 0 ≤ i → i < 8 → ∀ h', mFr m [812] [11, 12, 13, 14, 15] h h' → isMD h' m (joinV s (s.2.1.2 i.toNat)).2 → hI h' 812 m = 0 → Q (.inl (some (jI (joinV s (s.2.1.2 i.toNat)).1))) h') : jCall (d + 3) mX11_join [jR m, jI i] h Q := by
  refine bX11_join (fun _ _ => m_shelf H [812] [11, 12, 13, 14, 15] (by decide) i (fun z h1 f1 M1 g1 => ⟨_, rfl, fun w => absurd w (by decide), fun _ => k0 z h1 f1 M1 g1⟩) (fun z z2 h1 f1 M1 g1 => ⟨_, rfl, fun _ => ⟨M1.1.k, ?_⟩, fun w => absurd rfl w⟩))
  have kk := k1 z z2
  have L := M1.2.2.2.2.2.2.1
  have Li := L.2 i.toNat (by omega)
  rw [show (1 : Int) + (i.toNat : Int) = 1 + i by omega] at Li
  generalize hfs : s.2.1.2 i.toNat = fs at *
  unfold joinV at kk
  rw [M1.1.r813, M1.1.k813, M1.1.n813, L.1.1, Li.1]
  have a20 := L.1.2.1
  have b20 := Li.2.1
  refine ⟨.refl _, by omega, by omega, fun _ => ⟨⟨by omega, by omega⟩, by omega, by omega, fun _ => ⟨⟨by omega, by omega⟩, fun w => ?_, fun w => ?_⟩⟩⟩
  · rw [if_neg (by omega)] at kk
    refine n_copyAll M1.1 L.1 (by decide) (by decide) (by decide) (fun h2 f2 L2 o2 => ⟨_, rfl, ?_⟩)
    have H2 := f2.sh M1.1
    have T2 := f2.tb M1.2.1 (by decide)
    have O2 : mOth h1 h2 m := fun c gs h0 h9 G => o2 c gs h0 (by omega) (by omega) G
    refine n_join_49 (es := s.2.1.1) (fs := fs) (by omega) (by omega) fs.length 0 h2 (by omega) H2 T2 (O2 _ _ (by decide) (by decide) L.1) (O2 _ _ (by omega) (by omega) Li) (fun j hj => ?_) (fun h3 f3 o3 L3 => ?_)
    · rw [List.take_zero, List.append_nil] at hj ⊢
      have := L2.2.2 j hj
      rw [show (20 : Int) * 9 + j = 180 + j by omega] at this
      exact this
    · have f13 : mFr m [812] [11, 12, 13, 14, 15] h h3 := f1.trans ((f2.trans f3).mono (by decide) (by decide))
      have O3 := O2.trans o3
      have gl : ((s.2.1.1 ++ fs).length : Int) = s.2.1.1.length + fs.length := by rw [List.length_append]; omega
      have g3 : hI h3 812 m = 0 := ((f2.trans f3).i (by decide)).trans g1
      rw [← gl]
      refine n_join_95 (d := d) (by rw [List.length_append]; omega) (f3.sh H2) (f3.tb T2 (by decide)) L3 (s.2.1.1 ++ fs).length 0 (by omega) (fun q h4 f4 L4 o4 => ?_) (fun q => ?_)
      · rw [if_pos q] at kk
        have f14 := f13.trans (f4.mono (by decide) (by decide))
        exact kk h4 f14 (md_lists H f14 (by decide) (by decide) ⟨L4, fun j hj => o4 _ _ (by omega) (by omega) (O3 _ _ (by omega) (by omega) (L.2 j hj))⟩) ((f4.i (by decide)).trans g3)
      · rw [if_neg (by rw [q]; decide)] at kk
        refine kk h3 f13 ?_ g3
        have := md_lists H f13 (by decide) (by decide) (es := s.2.1.1) (sh := s.2.1.2) ⟨O3 _ _ (by decide) (by decide) L.1, fun j hj => O3 _ _ (by omega) (by omega) (L.2 j hj)⟩
        exact this
  · rw [if_pos (by omega)] at kk
    exact kk h1 f1 M1 g1
end MX
