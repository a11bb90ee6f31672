/-! THE MODEL: scan -/
theorem lzF_spec (t : List Int) : ∀ n i : Nat, i + n = t.length → (∀ j : Nat, i ≤ j → j < lzF t n i → t.getD j 0 = 0) ∧ (lzF t n i < t.length → t.getD (lzF t n i) 0 ≠ 0)
  | 0, i => fun hi => ⟨fun j h1 h2 => by simp only [lzF] at h2; omega, fun h => by simp only [lzF] at h; omega⟩
  | n + 1, i => fun hi => by
    unfold lzF
    by_cases z : t.getD i 0 = 0
    · rw [if_pos z]
      have ih := lzF_spec t n (i + 1) (by omega)
      refine ⟨fun j h1 h2 => ?_, ih.2⟩
      by_cases e : j = i
      · rw [e]; exact z
      · exact ih.1 j (by omega) h2
    · rw [if_neg z]
      exact ⟨fun j h1 h2 => by omega, fun _ => z⟩
theorem rzF_spec (t : List Int) (l : Nat) : ∀ k : Nat, (∀ j : Nat, rzF t l k < j → j ≤ k → t.getD (l + j) 0 = 0) ∧ (0 < rzF t l k → t.getD (l + rzF t l k) 0 ≠ 0)
  | 0 => ⟨fun j h1 h2 => by simp only [rzF] at h1; omega, fun h => by simp only [rzF] at h; omega⟩
  | k + 1 => by
    unfold rzF
    by_cases z : t.getD (l + (k + 1)) 0 = 0
    · rw [if_pos z]
      have ih := rzF_spec t l k
      refine ⟨fun j h1 h2 => ?_, ih.2⟩
      by_cases e : j = k + 1
      · rw [e]; exact z
      · exact ih.1 j h1 (by omega)
    · rw [if_neg z]
      exact ⟨fun j h1 h2 => by omega, fun _ => z⟩
theorem bar_at {t : List Int} {lo n : Nat} (h1 : lo < n) (h2 : n ≤ t.length) (z1 : ∀ j : Nat, j < lo → t.getD j 0 = 0) (z2 : ∀ j : Nat, n ≤ j → j < t.length → t.getD j 0 = 0) (n1 : t.getD lo 0 ≠ 0) (n2 : t.getD (n - 1) 0 ≠ 0) : lzV t = lo ∧ wiV t = n - lo := by
  have s := lzF_spec t t.length 0 (by omega)
  have r := lzF_rg t t.length 0
  have e1 : lzV t = lo := by
    unfold lzV
    rcases Nat.lt_trichotomy (lzF t t.length 0) lo with c | c | c
    · exact absurd (z1 _ c) (s.2 (by omega))
    · exact c
    · exact absurd (s.1 lo (Nat.zero_le _) c) n1
  have q := rzF_spec t lo (t.length - 1 - lo)
  have q2 := rzF_rg t lo (t.length - 1 - lo)
  refine ⟨e1, ?_⟩
  unfold wiV
  rw [e1, if_neg (by omega)]
  rcases Nat.lt_trichotomy (rzF t lo (t.length - 1 - lo)) (n - 1 - lo) with c | c | c
  · have := q.1 (n - 1 - lo) c (by omega)
    rw [show lo + (n - 1 - lo) = n - 1 by omega] at this
    exact absurd this n2
  · omega
  · exact absurd (z2 _ (by omega) (by omega)) (q.2 (by omega))
theorem bar_no {t : List Int} (z : ∀ j : Nat, j < t.length → t.getD j 0 = 0) : wiV t = 0 := by
  have s := lzF_spec t t.length 0 (by omega)
  have r := lzF_rg t t.length 0
  have e1 : lzV t = t.length := by
    unfold lzV
    by_cases c : lzF t t.length 0 < t.length
    · exact absurd (z _ c) (s.2 c)
    · omega
  unfold wiV
  rw [if_pos e1]
theorem rb_bad {t : List Int} {a b : Int} (hw : wiV t ≠ 0) (r : (rcF t (lzV t) (wiV t) (frV t (lzV t) (wiV t)) 100 0 [] []).2.2 = some (a, b)) : (rbV t).2.2.1 = a ∧ (rbV t).2.2.2 = b := by
  unfold rbV
  rw [if_neg hw]
  simp only [r]
  exact ⟨trivial, trivial⟩
theorem rb_ok {t CS ps : List Int} (hw : wiV t ≠ 0) (r : rcF t (lzV t) (wiV t) (frV t (lzV t) (wiV t)) 100 0 [] [] = (CS, ps, none)) : (rbV t).1 = CS ∧ (rbV t).2.1 = ps ∧ (∀ a b, jfV CS ps = some (a, b) → (rbV t).2.2.1 = a ∧ (rbV t).2.2.2 = b) ∧ (jfV CS ps = none → (rbV t).2.2.1 = 0) := by
  unfold rbV
  rw [if_neg hw, r]
  simp only
  cases hj : jfV CS ps with
  | some x =>
    refine ⟨rfl, rfl, fun a b e => ?_, fun e => by cases e⟩
    cases e
    exact ⟨rfl, rfl⟩
  | none => exact ⟨rfl, rfl, fun a b e => (by cases e), fun _ => rfl⟩
theorem scan_flt {s : jP} {a b : Int} (h1 : (rbV s.1.2.2.1).2.2.1 = a) (h2 : (rbV s.1.2.2.1).2.2.2 = b) (ha : a ≠ 0) : scanV s = (-1, (s.1, s.2.1, (s.2.2.1.1, a, b), s.2.2.2)) := by
  unfold scanV
  rw [h1, h2, if_pos ha]
/-- the first character is a START -/
theorem rcF_first (t : List Int) (lo wi : Int) (fr : Bool) : ∀ (f : Nat) (i : Int) (cs ps : List Int) {c0 ps' : List Int}, rcF t lo wi fr f i cs ps = (c0 ++ [106], ps', none) → (1 ≤ cs.length → 103 ≤ cs.getD 0 0 ∧ cs.getD 0 0 ≤ 105) → 1 ≤ c0.length → 103 ≤ c0.getD 0 0 ∧ c0.getD 0 0 ≤ 105
  | 0, i, cs, ps, c0, ps' => fun h => by cases h
  | f + 1, i, cs, ps, c0, ps' => fun h hc hl => by
    have cr := chaV_rg (t := t) (lo := lo) (wi := wi) (fr := fr) (i := i)
    unfold rcF at h
    by_cases z : badC t lo wi fr i cs.length = true
    · rw [if_pos z] at h; cases h
    · rw [if_neg z] at h
      by_cases y : stpB t lo wi fr i = true
      · rw [if_pos y] at h
        have e := congrArg (fun q => q.1) h
        have e2 : cs = c0 := List.append_cancel_right e
        subst e2
        exact hc hl
      · rw [if_neg y] at h
        refine rcF_first t lo wi fr f _ _ _ h (fun _ => ?_) hl
        by_cases c : 1 ≤ cs.length
        · rw [app_getL _ _ _ (by omega)]; exact hc c
        · have c0' : cs = [] := List.length_eq_zero_iff.mp (by omega)
          subst c0'
          unfold badC at z
          rw [Bool.or_eq_true, not_or] at z
          have z2 := z.2
          simp only [List.length_nil, decide_true] at z2
          have s1 : chaV t lo wi fr i ≠ 106 := fun q => by
            unfold chaV at q
            rw [if_neg y] at q
            have := idx_rg (patA t lo wi fr i 11)
            omega
          have z3 : decide (103 ≤ chaV t lo wi fr i) = true := by
            cases w : decide (103 ≤ chaV t lo wi fr i) with
            | true => rfl
            | false => rw [w] at z2; exact absurd rfl z2
          have := of_decide_eq_true z3
          show 103 ≤ chaV t lo wi fr i ∧ chaV t lo wi fr i ≤ 105
          omega
theorem rc_first {t : List Int} {lo wi : Int} {fr : Bool} (c0 ps : List Int) (r : rcF t lo wi fr 100 0 [] [] = (c0 ++ [106], ps, none)) (hl : 1 ≤ c0.length) : c0.getD 0 0 = 103 ∨ c0.getD 0 0 = 104 ∨ c0.getD 0 0 = 105 := by
  have := rcF_first t lo wi fr 100 0 [] [] r (fun h => by simp at h) hl
  omega
section MSc
variable {d m : Nat} {h : jH} {Q : jO → jH → Prop} {s : jP}
/-- the state while a strip is scanned -/
def scS (s : jP) : jP := (s.1, s.2.1, (s.2.2.1.1, 0, -1), s.2.2.2)
theorem md_flt {h1 : jH} {a b : Int} {fs as : List Nat} (M : isMD h m (scS s)) (f : mFr m fs as h h1) (n : mNt fs as) (c : (819 ∉ fs ∧ 16 ∉ as) ∧ (833 ∉ fs ∧ 20 ∉ as) ∧ (843 ∉ fs ∧ 27 ∉ as) ∧ (838 ∉ fs ∧ 23 ∉ as) ∧ (∀ a ∈ as, a < 11 ∨ 15 < a) ∧ 822 ∉ fs ∧ (849 ∉ fs ∧ 850 ∉ fs ∧ 851 ∉ fs)) (g1 : hI h1 823 m = a) (g2 : hI h1 824 m = b) : isMD h1 m (s.1, s.2.1, (s.2.2.1.1, a, b), s.2.2.2) := by
  obtain ⟨k1, k2, k3, k4, k5, k6, k7, k8, k9⟩ := M.keep f
  exact ⟨k1, k2 n, k3 c.1, k4 c.2.1, k5 c.2.2.1, k6 c.2.2.2.1, k7 c.2.2.2.2.1, ⟨(f.i c.2.2.2.2.2.1).trans M.2.2.2.2.2.2.2.1.1, g1, g2⟩, k9 c.2.2.2.2.2.2⟩
theorem n_begins0 {t : List Int} {lo wi : Int} {f2 : Bool} (hb : bitL t) (H : mSh h m) (T : mTb h m) (R : mRow h m 843 27 2000 t) (q4 : hI h 844 m = lo) (q5 : hI h 845 m = wi) (q7 : 0 ≤ lo) (q8 : 0 ≤ wi) (q9 : lo + wi ≤ t.length) (P : jO → jH → Prop) (k : mBr (sI h 846 m (b2i f2)) m t lo wi f2 → P (.inl (some (jI (b2i (begV t lo wi f2))))) (sI h 846 m (b2i f2))) : jCall (d + 2) mX11_begins [jR m, jI (b2i f2)] h P := by
  have f1 : mFr m [846] [] h (sI h 846 m (b2i f2)) := mFr.rfl.sI (by decide)
  have B1 : mBr (sI h 846 m (b2i f2)) m t lo wi f2 := ⟨f1.sh H, f1.tb T (by decide), f1.row R (by decide) (by decide), (f1.i (by decide)).trans q4, (f1.i (by decide)).trans q5, by rw [hI_sI, if_pos ⟨.refl _, .refl _⟩], q7, q8, q9⟩
  have kk := k B1
  have pt := B1.2.1.2.2.2.2.1
  unfold begV at kk
  refine bX11_begins (fun _ _ => ⟨H.k, b2i_rg f2, ?_⟩)
  rw [B1.2.2.2.2.1]
  refine fun _ => ⟨fun z => n_bitsAt (K := 0) (N := 11) hb (by omega) (by decide) B1 ⟨_, rfl, B1.1.k, ?_⟩, fun z => ?_⟩
  · have p103 : hA (sI h 846 m (b2i f2)) (m + 22) 103 = patL.getD 103 0 := pt 103 (by decide)
    have p104 : hA (sI h 846 m (b2i f2)) (m + 22) 104 = patL.getD 104 0 := pt 104 (by decide)
    have p105 : hA (sI h 846 m (b2i f2)) (m + 22) 105 = patL.getD 105 0 := pt 105 (by decide)
    rw [B1.1.r835, B1.1.k835, B1.1.n835, p103, p104, p105, show ((0 : Nat) : Int) = 0 from rfl]
    have pa : patA t lo wi f2 0 11 = patB t lo wi f2 11 0 0 := by unfold patA; rw [if_pos (by omega)]
    rw [pa] at kk
    have y : (patB t lo wi f2 11 0 0 = patL.getD 103 0 ∨ patB t lo wi f2 11 0 0 = patL.getD 104 0 ∨ patB t lo wi f2 11 0 0 = patL.getD 105 0) → P (.inl (some (jI 1))) (sI h 846 m (b2i f2)) := fun q => by rw [decide_eq_true ((idx_start _).mpr q)] at kk; exact kk
    have n : ¬ (patB t lo wi f2 11 0 0 = patL.getD 103 0 ∨ patB t lo wi f2 11 0 0 = patL.getD 104 0 ∨ patB t lo wi f2 11 0 0 = patL.getD 105 0) → P (.inl (some (jI 0))) (sI h 846 m (b2i f2)) := fun q => by rw [decide_eq_false (fun w => q ((idx_start _).mp w))] at kk; exact kk
    exact ⟨.refl _, by decide, by decide, fun _ => ⟨fun w => y (Or.inl w), fun w => ⟨by decide, by decide, fun _ => ⟨fun w2 => y (Or.inr (Or.inl w2)), fun w2 => ⟨by decide, by decide, fun _ => ⟨fun w3 => n (fun q => by rcases q with q | q | q; exact w q; exact w2 q; exact w3 q), fun w3 => y (Or.inr (Or.inr w3))⟩⟩⟩⟩⟩⟩
  · have pa : patA t lo wi f2 0 11 = -1 := by unfold patA; rw [if_neg (by omega)]
    rw [pa, idx_neg] at kk
    exact kk
abbrev scF : List Nat := [821, 823, 824, 825, 826, 846, 849, 850, 851]
abbrev scA : List Nat := [11, 12, 13, 14, 15, 17, 18, 19, 28, 29]
theorem n_scan_140 {fr : Bool} (hb : bitL s.1.2.2.1) (hc : 1950 ≤ s.2.2.1.1 ∧ s.2.2.1.1 ≤ 2200) (hw : wiV s.1.2.2.1 ≠ 0) (M : isMD h m (scS s)) (g4 : hI h 844 m = lzV s.1.2.2.1) (g5 : hI h 845 m = wiV s.1.2.2.1) (efr : fr = frV s.1.2.2.1 (lzV s.1.2.2.1) (wiV s.1.2.2.1)) (k : ∀ h', mFr m scF scA h h' → isMD h' m (scanV s).2 → Q (.inl (some (jI (scanV s).1))) h') : jWp (d + 5) mX11_scan 140 [(0, jR m)] [jI (b2i fr), jR m] h Q := by
  have wr := wiV_rg s.1.2.2.1
  have f1 : mFr m [846] [] h (sI h 846 m (b2i fr)) := mFr.rfl.sI (by decide)
  have M1 : isMD (sI h 846 m (b2i fr)) m (scS s) := md_same M f1 (by decide) (by decide)
  have B : mBr (sI h 846 m (b2i fr)) m s.1.2.2.1 (lzV s.1.2.2.1) (wiV s.1.2.2.1) fr := ⟨M1.1, M1.2.1, M1.2.2.2.2.1, (f1.i (by decide)).trans g4, (f1.i (by decide)).trans g5, by rw [hI_sI, if_pos ⟨.refl _, .refl _⟩], by omega, by omega, by omega⟩
  have l2000 := M.2.2.2.2.1.2.1
  -- a fault of the frame
  have bad : ∀ (h2 : jH) (a b : Int) (fs as : List Nat), (rbV s.1.2.2.1).2.2.1 = a → (rbV s.1.2.2.1).2.2.2 = b → a ≠ 0 → mFr m [823, 824] [28, 29] (sI h 846 m (b2i fr)) h2 → hI h2 823 m = a → hI h2 824 m = b → Q (.inl (some (jI (-1)))) h2 := fun h2 a b _ _ e1 e2 ha f2 g1 g2 => by
    rw [scan_flt e1 e2 ha] at k
    have ff : mFr m scF scA h h2 := (f1.mono (by decide) (by decide)).trans (f2.mono (by decide) (by decide))
    exact k h2 ff (md_flt M1 f2 (by decide) (by decide) g1 g2)
  refine bX11_scan_140 (fun _ => ⟨M.1.k, b2i_rg fr, M.1.k, bX11_row (fun _ => ?_)⟩)
  refine n_row_loop (d := d + 1) hb (by omega) 100 0 [] [] _ (by decide) (by decide) B ⟨rfl, fun i hi => absurd hi (by simp), fun i hi => absurd hi (by simp)⟩ (fun x hx => absurd hx (by simp)) (fun h2 a b r f2 g1 g2 => ⟨_, rfl, fun z => absurd z (by decide), fun _ => ?_⟩) (fun h2 c0 ps r f2 l0 l1 l2 l3 rg C => ⟨_, rfl, fun _ => ?_, fun z => absurd (by omega) z⟩)
  · have ne := rcF_ne _ _ _ _ _ _ _ _ r
    rw [efr] at r
    have e := rb_bad hw r
    exact bad h2 a b [] [] e.1 e.2 (by omega) f2 g1 g2
  · rw [efr] at r
    obtain ⟨e1, e2, e3, e4⟩ := rb_ok hw r
    have f2' : mFr m [823, 824] [28, 29] (sI h 846 m (b2i fr)) h2 := f2.mono (by decide) (by decide)
    have M2 : isMD h2 m (scS s) := md_same M1 f2 (by decide) (by decide)
    have H2 := M2.1
    have B2 := f2.br B (by decide) (by decide)
    have cl : (c0 ++ [(106 : Int)]).length = c0.length + 1 := by simp
    have cl2 : ((c0 ++ [(106 : Int)]).length : Int) - 2 = (c0.length : Int) - 1 := by omega
    have rg2 : ∀ x ∈ c0 ++ [(106 : Int)], 0 ≤ x ∧ x < 107 := fun x hx => by
      rcases List.mem_append.mp hx with e | e
      · have := rg x e; omega
      · rw [List.mem_singleton.mp e]; decide
    have ga : ∀ i : Nat, i < c0.length → lAt (c0 ++ [106]) (i : Int) = c0.getD i 0 := fun i hi => by rw [lAt_get (by omega), app_getL _ _ _ hi]
    have pa : ∀ i : Nat, i < c0.length → lAt ps (i : Int) = plcV (lzV s.1.2.2.1) (wiV s.1.2.2.1) fr (hA h2 (m + 29) (i : Int)) := fun i hi => by
      rw [(C.2.2 i hi).1, lAt_get (by omega), List.getD_eq_getElem?_getD, List.getD_eq_getElem?_getD, List.getElem?_take, if_pos hi]
    have fl : ∀ (a b : Int) (h3 : jH), h3 = sI (sI h2 823 m a) 824 m b → mFr m [823, 824] [28, 29] (sI h 846 m (b2i fr)) h3 ∧ hI h3 823 m = a ∧ hI h3 824 m = b := fun a b h3 e => by
      subst e
      refine ⟨f2'.trans ((mFr.rfl.sI (by decide)).sI (by decide)), ?_, ?_⟩
      · rw [hI_sI, if_neg (by omega), hI_sI, if_pos ⟨.refl _, .refl _⟩]
      · rw [hI_sI, if_pos ⟨.refl _, .refl _⟩]
    have jf : jfV (c0 ++ [106]) ps = if (c0.length : Int) - 1 < 1 ∨ lAt (c0 ++ [106]) ((c0.length : Int) - 1) ≠ chkV (c0 ++ [106]) ((c0.length : Int) - 1) then some (14, lAt ps ((c0.length : Int) - 1)) else if (c0.length : Int) - 1 = 1 ∨ lAt (c0 ++ [106]) 1 ≠ 102 then some (15, lAt ps 1) else none := by
      unfold jfV
      rw [cl2]
    have k180 : ((c0.length : Int) - 1 < 1 ∨ lAt (c0 ++ [106]) ((c0.length : Int) - 1) ≠ chkV (c0 ++ [106]) ((c0.length : Int) - 1)) → jWp (d + 5) mX11_scan 180 [(0, jR m), (3, jI c0.length)] [] h2 Q := fun z => by
      rw [if_pos z] at jf
      have e := e3 _ _ jf
      have c2 := C.2.2 (c0.length - 1) (by omega)
      have p2 := pa (c0.length - 1) (by omega)
      rw [show ((c0.length - 1 : Nat) : Int) = (c0.length : Int) - 1 by omega] at c2 p2
      refine bX11_scan_180 (fun _ _ => ⟨H2.k, ⟨by omega, by omega⟩, ?_⟩)
      rw [H2.r848, H2.k848, H2.n848]
      refine ⟨.refl _, by omega, by omega, fun _ => n_placeOf ⟨by omega, by omega⟩ B2 ⟨_, rfl, H2.k, n_fault H2 ⟨_, rfl, ?_⟩⟩⟩
      have q := fl 14 (plcV (lzV s.1.2.2.1) (wiV s.1.2.2.1) fr (hA h2 (m + 29) ((c0.length : Int) - 1))) _ rfl
      exact bad _ 14 _ [] [] e.1 (e.2.trans p2) (by decide) q.1 q.2.1 q.2.2
    have k217 : 2 ≤ c0.length → ¬ ((c0.length : Int) - 1 < 1 ∨ lAt (c0 ++ [106]) ((c0.length : Int) - 1) ≠ chkV (c0 ++ [106]) ((c0.length : Int) - 1)) → ((c0.length : Int) - 1 = 1 ∨ lAt (c0 ++ [106]) 1 ≠ 102) → jWp (d + 5) mX11_scan 217 [(0, jR m)] [] h2 Q := fun l2' z z2 => by
      rw [if_neg z, if_pos z2] at jf
      have e := e3 _ _ jf
      have c2 := C.2.2 1 (by omega)
      have p2 := pa 1 (by omega)
      rw [show ((1 : Nat) : Int) = 1 from rfl] at c2 p2
      refine bX11_scan_217 (fun _ => ⟨H2.k, ?_⟩)
      rw [H2.r848, H2.k848, H2.n848]
      refine ⟨.refl _, by decide, by decide, fun _ => n_placeOf ⟨by omega, by omega⟩ B2 ⟨_, rfl, H2.k, n_fault H2 ⟨_, rfl, ?_⟩⟩⟩
      have q := fl 15 (plcV (lzV s.1.2.2.1) (wiV s.1.2.2.1) fr (hA h2 (m + 29) 1)) _ rfl
      exact bad _ 15 _ [] [] e.1 (e.2.trans p2) (by decide) q.1 q.2.1 q.2.2
    refine ⟨fun z => k180 (Or.inl (by omega)), fun z => ⟨H2.k, ⟨by omega, by omega⟩, ?_⟩⟩
    have n1 : (c0.length : Int) - 1 = ((c0.length - 1 : Nat) : Int) := by omega
    have cv := C.2.1 (c0.length - 1) (by omega)
    have gl := ga (c0.length - 1) (by omega)
    rw [← n1] at cv gl
    rw [H2.r847]
    have cs := n_checkSum (d := d + 4) (h := h2) (r := m + 28) (l := c0 ++ [106]) (N := c0.length - 1) (Q := fun o h166 => ∃ v166, o = .inl (some (jI v166)) ∧ hK h166 m = 9 ∧ j32 ((c0.length : Int) - 1) ∧ hK h166 (hR h166 847 m) = 10 ∧ 0 ≤ ((c0.length : Int) - 1) ∧ ((c0.length : Int) - 1) < hN h166 (hR h166 847 m) ∧ (j32 (hA h166 (hR h166 847 m) ((c0.length : Int) - 1)) → ((v166 = (hA h166 (hR h166 847 m) ((c0.length : Int) - 1)) → (((c0.length : Int) = 2 → jWp (d + 5) mX11_scan 217 [(0, jR m)] [] h166 Q) ∧ (¬ ((c0.length : Int) = 2) → 0 ≤ (1 : Int) ∧ 1 < hN h166 (hR h166 847 m) ∧ (j32 (hA h166 (hR h166 847 m) 1) → (((hA h166 (hR h166 847 m) 1) = 102 → j32 ((c0.length : Int) + 1) ∧ (j32 (hI (sI h166 849 m ((c0.length : Int) + 1)) 846 m) → (0 ≤ (hI (sI h166 849 m ((c0.length : Int) + 1)) 846 m) ∧ (hI (sI h166 849 m ((c0.length : Int) + 1)) 846 m) ≤ 1) ∧ jCall (d + 4) mX11_tells [jR m, jI c0.length] (sI (sI h166 849 m ((c0.length : Int) + 1)) 851 m (hI (sI h166 849 m ((c0.length : Int) + 1)) 846 m)) (fun o h253 => ∃ v253, o = .inl (some (jI v253)) ∧ ((v253 = 0 → jWp (d + 5) mX11_scan 272 [(0, jR m), (4, jI v253)] [jI 0, jR m] h253 Q) ∧ (¬ (v253 = 0) → hK h253 m = 9 ∧ (j32 (hI h253 821 m) → jWp (d + 5) mX11_scan 272 [(0, jR m), (4, jI v253)] [jI (hI h253 821 m), jR m] h253 Q)))))) ∧ (¬ ((hA h166 (hR h166 847 m) 1) = 102) → jWp (d + 5) mX11_scan 217 [(0, jR m)] [] h166 Q)))))) ∧ (¬ (v166 = (hA h166 (hR h166 847 m) ((c0.length : Int) - 1))) → jWp (d + 5) mX11_scan 180 [(0, jR m), (3, jI c0.length)] [] h166 Q)))) H2.k847 (by rw [H2.n847]; omega) (by omega) (by omega) (by omega) (fun i hi => by rw [C.2.1 i (by omega), app_getL _ _ _ (by omega)]) rg2
    rw [← n1] at cs
    refine cs ⟨_, rfl, H2.k, ⟨by omega, by omega⟩, ?_⟩
    rw [H2.r847, H2.k847, H2.n847, cv]
    refine ⟨.refl _, by omega, by omega, fun _ => ⟨fun ec => ?_, fun nc => k180 (Or.inr (by rw [gl]; exact fun q => nc q.symm))⟩⟩
    have okc : ¬ ((c0.length : Int) - 1 < 1 ∨ lAt (c0 ++ [106]) ((c0.length : Int) - 1) ≠ chkV (c0 ++ [106]) ((c0.length : Int) - 1)) := fun q => by
      rcases q with q | q
      · omega
      · exact q (gl.trans ec.symm)
    refine ⟨fun e2' => k217 (by omega) okc (Or.inl (by omega)), fun n2' => ⟨by decide, by decide, ?_⟩⟩
    have cv1 := C.2.1 1 (by omega)
    have gl1 := ga 1 (by omega)
    rw [show ((1 : Nat) : Int) = 1 from rfl] at cv1 gl1
    rw [cv1]
    refine fun _ => ⟨fun e102 => ?_, fun n102 => k217 (by omega) okc (Or.inr (by rw [gl1]; exact n102))⟩
    rw [if_neg okc, if_neg (fun q => by rcases q with q | q; omega; exact q (gl1.trans e102))] at jf
    have z0 := e4 jf
    have c3 := rbV_ok z0
    -- the string
    have f3 : mFr m [849, 851] [] h2 (sI (sI h2 849 m ((c0.length : Int) + 1)) 851 m (b2i fr)) := (mFr.rfl.sI (by decide)).sI (by decide)
    have g846 : hI (sI h2 849 m ((c0.length : Int) + 1)) 846 m = b2i fr := by
      rw [hI_sI, if_neg (by omega)]; exact B2.2.2.2.2.2.1
    rw [g846]
    have H3 := f3.sh H2
    have B3 := f3.br B2 (by decide) (by decide)
    have s0 : c0.getD 0 0 = 103 ∨ c0.getD 0 0 = 104 ∨ c0.getD 0 0 = 105 := rc_first c0 ps r (by omega)
    have cv0 := C.2.1 0 (by omega)
    rw [show ((0 : Nat) : Int) = 0 from rfl] at cv0
    refine ⟨⟨by omega, by omega⟩, fun _ => ⟨b2i_rg fr, bX11_tells (fun _ _ => ⟨H3.k, ?_⟩)⟩⟩
    rw [H3.r847, H3.k847, H3.n847, f3.a (by decide), cv0]
    have f4 : mFr m [821] [] (sI (sI h2 849 m ((c0.length : Int) + 1)) 851 m (b2i fr)) (sI (sI (sI h2 849 m ((c0.length : Int) + 1)) 851 m (b2i fr)) 821 m 0) := mFr.rfl.sI (by decide)
    have f34 : mFr m [821, 849, 851] [] h2 (sI (sI (sI h2 849 m ((c0.length : Int) + 1)) 851 m (b2i fr)) 821 m 0) := (f3.mono (by decide) (by decide)).trans (f4.mono (by decide) (by decide))
    have tl : tlV (c0 ++ [106]) ps = tlF (c0 ++ [106]) ps (c0.length - 1) (c0.length - 1) 2 (c0.getD 0 0) [] := by
      unfold tlV
      rw [cl, show c0.length + 1 - 2 = c0.length - 1 by omega]
      have := ga 0 (by omega)
      rw [show ((0 : Nat) : Int) = 0 from rfl] at this
      rw [this]
    have g851 : hI (sI (sI (sI h2 849 m ((c0.length : Int) + 1)) 851 m (b2i fr)) 821 m 0) 851 m = b2i fr := by
      rw [hI_sI, if_neg (by omega), hI_sI, if_pos ⟨.refl _, .refl _⟩]
    have g849 : hI (sI (sI (sI h2 849 m ((c0.length : Int) + 1)) 851 m (b2i fr)) 821 m 0) 849 m = (c0.length : Int) + 1 := by
      rw [hI_sI, if_neg (by omega), hI_sI, if_neg (by omega), hI_sI, if_pos ⟨.refl _, .refl _⟩]
    have ff4 : mFr m scF scA h (sI (sI (sI h2 849 m ((c0.length : Int) + 1)) 851 m (b2i fr)) 821 m 0) := (f1.mono (by decide) (by decide)).trans ((f2.mono (by decide) (by decide)).trans (f34.mono (by decide) (by decide)))
    -- the state, but for the numbers of the scan
    have md : ∀ (h5 : jH) (fs as : List Nat) (a b : Int) (w : Int), mFr m fs as h2 h5 → mNt fs as → ((819 ∉ fs ∧ 16 ∉ as) ∧ (833 ∉ fs ∧ 20 ∉ as) ∧ (843 ∉ fs ∧ 27 ∉ as) ∧ (838 ∉ fs ∧ 23 ∉ as) ∧ (∀ a ∈ as, a < 11 ∨ 15 < a) ∧ 822 ∉ fs) → hI h5 823 m = a → hI h5 824 m = b → hI h5 849 m = (c0.length : Int) + 1 → hI h5 850 m = w → hI h5 851 m = b2i fr → isMD h5 m (s.1, s.2.1, (s.2.2.1.1, a, b), ((c0.length : Int) + 1, w, b2i fr)) := fun h5 fs as a b w f n c q1 q2 q3 q4 q5 => by
      obtain ⟨k1, k2, k3, k4, k5, k6, k7, k8, k9⟩ := M2.keep f
      exact ⟨k1, k2 n, k3 c.1, k4 c.2.1, k5 c.2.2.1, k6 c.2.2.2.1, k7 c.2.2.2.2.1, ⟨(f.i c.2.2.2.2.2).trans M2.2.2.2.2.2.2.2.1.1, q1, q2⟩, q3, q4, q5⟩
    have sc : scanV s = (match (tlV (c0 ++ [106]) ps).2 with
      | some (a, b) => (-1, (s.1, s.2.1, (s.2.2.1.1, a, b), ((c0.length : Int) + 1, 0, b2i fr)))
      | none => accV (s.1, s.2.1, s.2.2.1, ((c0.length : Int) + 1, ((tlV (c0 ++ [106]) ps).1.length : Int), b2i fr)) (rtF (tlV (c0 ++ [106]) ps).1 false s.2.2.1.1 false 21 0 [] [])) := by
      unfold scanV
      rw [z0, if_neg (fun q => q rfl), e1, e2, ← efr, show ((c0 ++ [(106 : Int)]).length : Int) = (c0.length : Int) + 1 by omega]
      cases (tlV (c0 ++ [106]) ps).2 with
      | none => rfl
      | some x => rfl
    rw [sc, tl] at k
    refine ⟨.refl _, by decide, by decide, fun _ => ⟨⟨by omega, by omega⟩, ?_⟩⟩
    refine n_tells_loop (d := d + 2) (t := s.1.2.2.1) (lo := lzV s.1.2.2.1) (wi := wiV s.1.2.2.1) (fr := fr) rg l2 l3 (c0.length - 1) 2 (c0.getD 0 0) [] _ (by omega) (by decide) (by decide) s0 (by simp) (f4.br B3 (by decide) (by decide)) ⟨C.1, fun j hj => (f34.a (by decide) _).trans (C.2.1 j hj), fun j hj => by rw [f34.a (by decide)]; exact C.2.2 j hj⟩ ⟨by rw [hI_sI, if_pos ⟨.refl _, .refl _⟩]; rfl, fun i hi => absurd hi (by simp), fun x hx => absurd hx (by simp)⟩ (fun h5 o a b r5 f5 q1 q2 => ⟨_, rfl, fun _ => ?_, fun z => absurd rfl z⟩) (fun h5 o r5 f5 O5 ol => ⟨_, rfl, fun z => absurd z (by decide), fun _ => ⟨(f5.sh (f4.sh H3)).k, ?_⟩⟩)
    · rw [r5] at k
      simp only at k
      have H5 := f5.sh (f4.sh H3)
      have f6 : mFr m [850] [] h5 (sI h5 850 m 0) := mFr.rfl.sI (by decide)
      have f26 : mFr m [821, 823, 824, 849, 850, 851] [17] h2 (sI h5 850 m 0) := (f34.mono (by decide) (by decide)).trans ((f5.mono (by decide) (by decide)).trans (f6.mono (by decide) (by decide)))
      have ff : mFr m scF scA h (sI h5 850 m 0) := ff4.trans ((f5.mono (by decide) (by decide)).trans (f6.mono (by decide) (by decide)))
      refine bX11_scan_272 (fun _ _ => ⟨H5.k, fun _ => bX11_scan_290 (fun _ => k _ ff (md _ _ _ a b 0 f26 (by decide) (by decide) ((f6.i (by decide)).trans q1) ((f6.i (by decide)).trans q2) ((f6.i (by decide)).trans ((f5.i (by decide)).trans g849)) (by rw [hI_sI, if_pos ⟨.refl _, .refl _⟩]) ((f6.i (by decide)).trans ((f5.i (by decide)).trans g851)))), fun z => absurd rfl z⟩)
    · rw [r5] at k
      simp only at k
      have H5 := f5.sh (f4.sh H3)
      rw [O5.1]
      have f6 : mFr m [850] [] h5 (sI h5 850 m o.length) := mFr.rfl.sI (by decide)
      have f26 : mFr m [821, 849, 850, 851] [17] h2 (sI h5 850 m o.length) := (f34.mono (by decide) (by decide)).trans ((f5.mono (by decide) (by decide)).trans (f6.mono (by decide) (by decide)))
      have ff : mFr m scF scA h (sI h5 850 m o.length) := ff4.trans ((f5.mono (by decide) (by decide)).trans (f6.mono (by decide) (by decide)))
      have m23 : hI h2 823 m = 0 := M2.2.2.2.2.2.2.2.1.2.1
      have m24 : hI h2 824 m = -1 := M2.2.2.2.2.2.2.2.1.2.2
      have M6 := md _ _ _ 0 (-1) o.length f26 (by decide) (by decide) ((f26.i (by decide)).trans m23) ((f26.i (by decide)).trans m24) ((f6.i (by decide)).trans ((f5.i (by decide)).trans g849)) (by rw [hI_sI, if_pos ⟨.refl _, .refl _⟩]) ((f6.i (by decide)).trans ((f5.i (by decide)).trans g851))
      refine fun _ => bX11_scan_272 (fun _ _ => ⟨H5.k, fun z => absurd z (by decide), fun _ => ⟨H5.k, ?_⟩⟩)
      have tk := v_taken (d := d) (m := m) (h := sI h5 850 m o.length) (t := o) (br := false) (asks := false) (s := (s.1, s.2.1, s.2.2.1, ((c0.length : Int) + 1, (o.length : Int), b2i fr))) (Q := fun o h283 => ∃ v283, o = .inl (some (jI v283)) ∧ jWp (d + 5) mX11_scan 290 [] [jI v283] h283 Q) (fun x hx => by have := O5.2.2 x hx; omega) hc M6 ((f6.i (by decide)).trans O5.1) ol (fun j hj => (f6.a (by decide) _).trans (O5.2.1 j hj)) (fun h' f' M' => ⟨_, rfl, bX11_scan_290 (fun _ => k h' (ff.trans (f'.mono (by decide) (by decide))) M')⟩)
      exact tk
/-- the tail: the strip's part is known -/
theorem n_scan_tail {L n : Nat} (hb : bitL s.1.2.2.1) (hc : 1950 ≤ s.2.2.1.1 ∧ s.2.2.1.1 ≤ 2200) (M : isMD h m (scS s)) (g4 : hI h 844 m = L) (hn : n ≤ s.1.2.2.1.length) (hL : L ≤ n) (z1 : ∀ j : Nat, j < L → s.1.2.2.1.getD j 0 = 0) (z2 : ∀ j : Nat, n ≤ j → j < s.1.2.2.1.length → s.1.2.2.1.getD j 0 = 0) (n1 : L < n → s.1.2.2.1.getD L 0 ≠ 0 ∧ s.1.2.2.1.getD (n - 1) 0 ≠ 0) (k : ∀ h', mFr m (844 :: 845 :: scF) scA h h' → isMD h' m (scanV s).2 → Q (.inl (some (jI (scanV s).1))) h') :
    j32 ((n : Int) - 1 - L) ∧ j32 ((n : Int) - 1 - L + 1) ∧ (j32 (hI (sI h 845 m ((n : Int) - 1 - L + 1)) 845 m) → ((0 < (hI (sI h 845 m ((n : Int) - 1 - L + 1)) 845 m) → jCall (d + 4) mX11_begins [jR m, jI 0] (sI h 845 m ((n : Int) - 1 - L + 1)) (fun o h110 => ∃ v110, o = .inl (some (jI v110)) ∧ ((v110 ≠ 0 → jWp (d + 5) mX11_scan 129 [(0, jR m)] [jI 1] h110 Q) ∧ (v110 = 0 → hK h110 m = 9 ∧ jCall (d + 4) mX11_begins [jR m, jI 1] h110 (fun o h118 => ∃ v118, o = .inl (some (jI v118)) ∧ ((v118 ≠ 0 → jWp (d + 5) mX11_scan 129 [(0, jR m)] [jI 0] h118 Q) ∧ (v118 = 0 → jWp (d + 5) mX11_scan 129 [(0, jR m)] [jI 1] h118 Q))))))) ∧ (¬ (0 < (hI (sI h 845 m ((n : Int) - 1 - L + 1)) 845 m)) → jCall (d + 4) mX11_fault [jR m, jI 11, jI 0] (sI h 845 m ((n : Int) - 1 - L + 1)) (fun o h102 => ∃ v102, o = .inl (some (jI v102)) ∧ Q (.inl (some (jI (-1)))) h102)))) := by
  have l2000 := M.2.2.2.2.1.2.1
  change s.1.2.2.1.length ≤ 2000 at l2000
  have f1 : mFr m [845] [] h (sI h 845 m ((n : Int) - 1 - L + 1)) := mFr.rfl.sI (by decide)
  have M1 : isMD (sI h 845 m ((n : Int) - 1 - L + 1)) m (scS s) := md_same M f1 (by decide) (by decide)
  have g5 : hI (sI h 845 m ((n : Int) - 1 - L + 1)) 845 m = (n : Int) - 1 - L + 1 := by rw [hI_sI, if_pos ⟨.refl _, .refl _⟩]
  rw [g5]
  refine ⟨⟨by omega, by omega⟩, ⟨by omega, by omega⟩, fun _ => ⟨fun z => ?_, fun z => ?_⟩⟩
  · have nn := n1 (by omega)
    have ba := bar_at (lo := L) (n := n) (by omega) hn z1 z2 nn.1 nn.2
    have g4' : hI (sI h 845 m ((n : Int) - 1 - L + 1)) 844 m = lzV s.1.2.2.1 := (f1.i (by decide)).trans (by rw [g4, ba.1])
    have g5' : hI (sI h 845 m ((n : Int) - 1 - L + 1)) 845 m = wiV s.1.2.2.1 := by rw [g5, ba.2]; omega
    have wr := wiV_rg s.1.2.2.1
    have hw : wiV s.1.2.2.1 ≠ 0 := by rw [ba.2]; omega
    -- begins asks nothing of 846 ahead of it
    have fin : ∀ (fr : Bool) (h3 : jH), fr = frV s.1.2.2.1 (lzV s.1.2.2.1) (wiV s.1.2.2.1) → mFr m [845, 846] [] h h3 → isMD h3 m (scS s) → hI h3 844 m = lzV s.1.2.2.1 → hI h3 845 m = wiV s.1.2.2.1 → jWp (d + 5) mX11_scan 140 [(0, jR m)] [jI (b2i fr), jR m] h3 Q := fun fr h3 e f3 M3 a b =>
      n_scan_140 hb hc hw M3 a b e (fun h' f' M' => k h' ((f3.mono (by decide) (by decide)).trans (f'.mono (by decide) (by decide))) M')
    have bg : ∀ (f2 : Bool) (h3 : jH) {P : jO → jH → Prop}, mFr m [845, 846] [] h h3 → isMD h3 m (scS s) → hI h3 844 m = lzV s.1.2.2.1 → hI h3 845 m = wiV s.1.2.2.1 → (∀ h4, mFr m [845, 846] [] h h4 → isMD h4 m (scS s) → hI h4 844 m = lzV s.1.2.2.1 → hI h4 845 m = wiV s.1.2.2.1 → mBr h4 m s.1.2.2.1 (lzV s.1.2.2.1) (wiV s.1.2.2.1) f2 → P (.inl (some (jI (b2i (begV s.1.2.2.1 (lzV s.1.2.2.1) (wiV s.1.2.2.1) f2))))) h4) → (∃ fr0, mBr h3 m s.1.2.2.1 (lzV s.1.2.2.1) (wiV s.1.2.2.1) fr0) → jCall (d + 4) mX11_begins [jR m, jI (b2i f2)] h3 P := fun f2 h3 P f3 M3 a b kk hx => by
      obtain ⟨fr0, B0⟩ := hx
      have f4 : mFr m [846] [] h3 (sI h3 846 m (b2i f2)) := mFr.rfl.sI (by decide)
      exact n_begins (d := d + 2) hb B0 (fun B4 => kk _ (f3.trans (f4.mono (by decide) (by decide))) (md_same M3 f4 (by decide) (by decide)) ((f4.i (by decide)).trans a) ((f4.i (by decide)).trans b) B4)
    have f01 : mFr m [845, 846] [] h (sI h 845 m ((n : Int) - 1 - L + 1)) := f1.mono (by decide) (by decide)
    have first := n_begins0 (d := d + 2) (f2 := false) hb M1.1 M1.2.1 M1.2.2.2.2.1 g4' g5' (by omega) (by omega) (by omega)
    refine first _ (fun B4 => ⟨_, rfl, fun v => ?_, fun v => ⟨B4.1.k, ?_⟩⟩)
    · have f4 : mFr m [846] [] (sI h 845 m ((n : Int) - 1 - L + 1)) (sI (sI h 845 m ((n : Int) - 1 - L + 1)) 846 m (b2i false)) := mFr.rfl.sI (by decide)
      have v' := (b2i_ne _).mp v
      refine bX11_scan_129 (fun _ => ⟨fun _ => fin false _ ?_ (f01.trans (f4.mono (by decide) (by decide))) (md_same M1 f4 (by decide) (by decide)) B4.2.2.2.1 B4.2.2.2.2.1, fun q => absurd q (by decide)⟩)
      unfold frV
      rw [v']
      rfl
    · have f4 : mFr m [846] [] (sI h 845 m ((n : Int) - 1 - L + 1)) (sI (sI h 845 m ((n : Int) - 1 - L + 1)) 846 m (b2i false)) := mFr.rfl.sI (by decide)
      have v' := (b2i_eq _).mp v
      have M4 := md_same M1 f4 (by decide) (by decide)
      have f04 := f01.trans (f4.mono (fs' := [845, 846]) (as' := []) (by decide) (by decide))
      refine bg true _ f04 M4 B4.2.2.2.1 B4.2.2.2.2.1 (fun h5 f5 M5 a5 b5 B5 => ⟨_, rfl, fun w => ?_, fun w => ?_⟩) ⟨false, B4⟩
      · have w' := (b2i_ne _).mp w
        refine bX11_scan_129 (fun _ => ⟨fun q => absurd rfl q, fun _ => fin true _ ?_ f5 M5 a5 b5⟩)
        unfold frV
        rw [v', w']
        rfl
      · have w' := (b2i_eq _).mp w
        refine bX11_scan_129 (fun _ => ⟨fun _ => fin false _ ?_ f5 M5 a5 b5, fun q => absurd q (by decide)⟩)
        unfold frV
        rw [v', w']
        rfl
  · have hz : n = L := by omega
    have w0 : wiV s.1.2.2.1 = 0 := bar_no (fun j hj => by
      by_cases c : j < L
      · exact z1 j c
      · exact z2 j (by omega) hj)
    have e1 : (rbV s.1.2.2.1).2.2.1 = 11 ∧ (rbV s.1.2.2.1).2.2.2 = 0 := by
      unfold rbV
      rw [if_pos w0]
      exact ⟨rfl, rfl⟩
    rw [scan_flt e1.1 e1.2 (by decide)] at k
    have f2 : mFr m [823, 824] [] (sI h 845 m ((n : Int) - 1 - L + 1)) (sI (sI (sI h 845 m ((n : Int) - 1 - L + 1)) 823 m 11) 824 m 0) := (mFr.rfl.sI (by decide)).sI (by decide)
    refine n_fault M1.1 ⟨_, rfl, k _ ((f1.mono (by decide) (by decide)).trans (f2.mono (by decide) (by decide))) (md_flt M1 f2 (by decide) (by decide) ?_ ?_)⟩
    · rw [hI_sI, if_neg (by omega), hI_sI, if_pos ⟨.refl _, .refl _⟩]
    · rw [hI_sI, if_pos ⟨.refl _, .refl _⟩]
theorem n_scan_46 {n : Nat} (hb : bitL s.1.2.2.1) (hc : 1950 ≤ s.2.2.1.1 ∧ s.2.2.1.1 ≤ 2200) (hn : n ≤ s.1.2.2.1.length) (z2 : ∀ j : Nat, n ≤ j → j < s.1.2.2.1.length → s.1.2.2.1.getD j 0 = 0) (n2 : 0 < n → s.1.2.2.1.getD (n - 1) 0 ≠ 0) (r : Nat) : ∀ (L : Nat) (h : jH), L + r = n → isMD h m (scS s) → hI h 844 m = L → (∀ j : Nat, j < L → s.1.2.2.1.getD j 0 = 0) → (∀ h', mFr m (844 :: 845 :: scF) scA h h' → isMD h' m (scanV s).2 → Q (.inl (some (jI (scanV s).1))) h') → jWp (d + 5) mX11_scan 46 [(0, jR m), (1, jI ((n : Int) - 1))] [] h Q := by
  induction r with
  | zero =>
    intro L h hr M g4 z1 k
    have tl := n_scan_tail (d := d) (Q := Q) hb hc M g4 hn (by omega) z1 z2 (fun c => by omega) k
    refine bX11_scan_46 (fun _ _ => ⟨M.1.k, ?_⟩)
    rw [g4]
    exact fun _ => ⟨fun _ => tl, fun z => by omega⟩
  | succ r ih =>
    intro L h hr M g4 z1 k
    have l2000 := M.2.2.2.2.1.2.1
    have R := M.2.2.2.2.1
    change s.1.2.2.1.length ≤ 2000 at l2000
    have gv : hA h (m + 27) (L : Int) = s.1.2.2.1.getD L 0 := R.2.2 L (by show L < s.1.2.2.1.length; omega)
    refine bX11_scan_46 (fun _ _ => ⟨M.1.k, ?_⟩)
    rw [g4, M.1.r842, M.1.k842, M.1.n842, gv]
    refine fun _ => ⟨fun z => by omega, fun z => ⟨.refl _, by omega, by omega, fun _ => ⟨fun w => ?_, fun w => ⟨⟨by omega, by omega⟩, ?_⟩⟩⟩⟩
    · exact n_scan_tail (d := d) (Q := Q) hb hc M g4 hn (by omega) z1 z2 (fun c => ⟨w, n2 (by omega)⟩) k
    · have f1 : mFr m [844] [] h (sI h 844 m ((L : Int) + 1)) := mFr.rfl.sI (by decide)
      refine ih (L + 1) _ (by omega) (md_same M f1 (by decide) (by decide)) (by rw [hI_sI, if_pos ⟨.refl _, .refl _⟩]; omega) (fun j hj => ?_) (fun h' f' M' => k h' ((f1.mono (by decide) (by decide)).trans f') M')
      by_cases e : j = L
      · rw [e]; exact w
      · exact z1 j (by omega)
theorem n_scan_27 (hb : bitL s.1.2.2.1) (hc : 1950 ≤ s.2.2.1.1 ∧ s.2.2.1.1 ≤ 2200) (M : isMD h m (scS s)) (g4 : hI h 844 m = 0) (k : ∀ h', mFr m (844 :: 845 :: scF) scA h h' → isMD h' m (scanV s).2 → Q (.inl (some (jI (scanV s).1))) h') (n : Nat) : n ≤ s.1.2.2.1.length → (∀ j : Nat, n ≤ j → j < s.1.2.2.1.length → s.1.2.2.1.getD j 0 = 0) → jWp (d + 5) mX11_scan 27 [(0, jR m), (1, jI ((n : Int) - 1))] [] h Q := by
  have l2000 := M.2.2.2.2.1.2.1
  have R := M.2.2.2.2.1
  change s.1.2.2.1.length ≤ 2000 at l2000
  induction n with
  | zero =>
    intro hn z2
    exact bX11_scan_27 (fun _ _ => ⟨fun _ => n_scan_46 (d := d) hb hc hn z2 (fun c => by omega) 0 0 h rfl M g4 (fun j hj => by omega) k, fun z => absurd (by decide) z⟩)
  | succ n ih =>
    intro hn z2
    have gv : hA h (m + 27) (n : Int) = s.1.2.2.1.getD n 0 := R.2.2 n (by show n < s.1.2.2.1.length; omega)
    refine bX11_scan_27 (fun _ _ => ⟨fun z => by omega, fun z => ⟨M.1.k, ?_⟩⟩)
    rw [M.1.r842, M.1.k842, M.1.n842, show ((n + 1 : Nat) : Int) - 1 = n by omega, gv]
    refine ⟨.refl _, by omega, by omega, fun _ => ⟨fun w => ?_, fun w => ⟨⟨by omega, by omega⟩, ?_⟩⟩⟩
    · have := n_scan_46 (d := d) (Q := Q) (n := n + 1) hb hc hn z2 (fun _ => by rw [show n + 1 - 1 = n by omega]; exact w) (n + 1) 0 h (by omega) M g4 (fun j hj => by omega) k
      rw [show ((n + 1 : Nat) : Int) - 1 = n by omega] at this
      exact this
    · rw [show (n : Int) + (-1) = (n : Int) - 1 by omega]
      refine ih (by omega) (fun j h1 h2 => ?_)
      by_cases e : j = n
      · rw [e]; exact w
      · exact z2 j (by omega) h2
theorem v_scan (hb : bitL s.1.2.2.1) (hc : 1950 ≤ s.2.2.1.1 ∧ s.2.2.1.1 ≤ 2200) (M : isMD h m s) (k : ∀ h', mFr m (812 :: 844 :: 845 :: scF) scA h h' → isMD h' m (scanV s).2 → Q (.inl (some (jI (scanV s).1))) h') : jCall (d + 5) mX11_scan [jR m] h Q := by
  have R := M.2.2.2.2.1
  have l2000 := R.2.1
  have f1 : mFr m [812, 823, 824, 844] [] h (sI (sI (sI (sI h 812 m 0) 823 m 0) 824 m (-1)) 844 m 0) := (((mFr.rfl.sI (by decide)).sI (by decide)).sI (by decide)).sI (by decide)
  obtain ⟨k1, k2, k3, k4, k5, k6, k7, k8, k9⟩ := M.keep f1
  have M1 : isMD (sI (sI (sI (sI h 812 m 0) 823 m 0) 824 m (-1)) 844 m 0) m (scS s) := by
    refine ⟨k1, k2 (by decide), k3 (by decide), k4 (by decide), k5 (by decide), k6 (by decide), k7 (by decide), ⟨(f1.i (by decide)).trans M.2.2.2.2.2.2.2.1.1, ?_, ?_⟩, k9 (by decide)⟩
    · rw [hI_sI, if_neg (by omega), hI_sI, if_neg (by omega), hI_sI, if_pos ⟨.refl _, .refl _⟩]; rfl
    · rw [hI_sI, if_neg (by omega), hI_sI, if_pos ⟨.refl _, .refl _⟩]; rfl
  refine bX11_scan (fun _ => ⟨M.1.k, ?_⟩)
  rw [show hI (sI (sI (sI h 812 m 0) 823 m 0) 824 m (-1)) 843 m = s.1.2.2.1.length by rw [hI_sI, if_neg (by omega), hI_sI, if_neg (by omega), hI_sI, if_neg (by omega), R.1]]
  exact fun _ => ⟨⟨by omega, by omega⟩, n_scan_27 hb hc M1 (by rw [hI_sI, if_pos ⟨.refl _, .refl _⟩]) (fun h' f' M' => k h' ((f1.mono (by decide) (by decide)).trans (f'.mono (by decide) (by decide))) M') s.1.2.2.1.length (Nat.le_refl _) (fun j h1 h2 => by omega)⟩
end MSc
