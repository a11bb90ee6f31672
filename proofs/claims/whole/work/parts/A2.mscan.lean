/-! THE MODEL: scanning -/
theorem patL_is : patL = [1740, 1644, 1638, 1176, 1164, 1100, 1224, 1220, 1124, 1608, 1604, 1572, 1436, 1244, 1230, 1484, 1260, 1254, 1650, 1628, 1614, 1764, 1652, 1902, 1868, 1836, 1830, 1892, 1844, 1842, 1752, 1734, 1590, 1304, 1112, 1094, 1416, 1128, 1122, 1672, 1576, 1570, 1464, 1422, 1134, 1496, 1478, 1142, 1910, 1678, 1582, 1768, 1762, 1774, 1880, 1862, 1814, 1896, 1890, 1818, 1914, 1602, 1930, 1328, 1292, 1200, 1158, 1068, 1062, 1424, 1412, 1232, 1218, 1076, 1074, 1554, 1616, 1978, 1556, 1146, 1340, 1212, 1182, 1508, 1268, 1266, 1956, 1940, 1938, 1758, 1782, 1974, 1400, 1310, 1118, 1512, 1506, 1960, 1954, 1502, 1518, 1886, 1966, 1668, 1680, 1692] := by decide +kernel
theorem patS_is : patS = 6379 := by decide +kernel
theorem patL_rg : ∀ i : Nat, i < 106 → 0 ≤ patL.getD i 0 ∧ patL.getD i 0 < 2048 := by rw [patL_is]; decide +kernel
theorem patL_first : ∀ i : Nat, i < 103 → patL.getD i 0 ≠ patL.getD 103 0 ∧ patL.getD i 0 ≠ patL.getD 104 0 ∧ patL.getD i 0 ≠ patL.getD 105 0 := by rw [patL_is]; decide +kernel
theorem idxI_spec (p : Int) (l : List Int) : ∀ (n i : Nat), i + n = l.length → (idxI p (l.drop i) i = -1 ∧ ∀ j : Nat, i ≤ j → j < l.length → l.getD j 0 ≠ p) ∨ ∃ j : Nat, i ≤ j ∧ j < l.length ∧ idxI p (l.drop i) i = j ∧ l.getD j 0 = p ∧ ∀ q : Nat, i ≤ q → q < j → l.getD q 0 ≠ p
  | 0, i => fun hi => by
    rw [List.drop_eq_nil_of_le (by omega)]
    exact Or.inl ⟨rfl, fun j h1 h2 => by omega⟩
  | n + 1, i => fun hi => by
    rw [drop_getD (by omega)]
    unfold idxI
    by_cases z : l.getD i 0 = p
    · rw [if_pos z]
      exact Or.inr ⟨i, Nat.le_refl _, by omega, rfl, z, fun q h1 h2 => by omega⟩
    · rw [if_neg z]
      rcases idxI_spec p l n (i + 1) (by omega) with e | ⟨j, h1, h2, h3, h4, h5⟩
      · refine Or.inl ⟨e.1, fun j h1 h2 => ?_⟩
        by_cases c : j = i
        · rw [c]; exact z
        · exact e.2 j (by omega) h2
      · refine Or.inr ⟨j, by omega, h2, h3, h4, fun q q1 q2 => ?_⟩
        by_cases c : q = i
        · rw [c]; exact z
        · exact h5 q (by omega) q2
theorem idx_start (v : Int) : 103 ≤ idxI v patL 0 ↔ (v = patL.getD 103 0 ∨ v = patL.getD 104 0 ∨ v = patL.getD 105 0) := by
  have pl := patL_len
  have s := idxI_spec v patL 106 0 (by rw [pl])
  rw [List.drop_zero] at s
  rcases s with s | ⟨j, h1, h2, h3, h4, h5⟩
  · rw [s.1]
    refine ⟨fun z => by omega, fun z => ?_⟩
    rcases z with z | z | z
    · exact absurd z.symm (s.2 103 (by omega) (by omega))
    · exact absurd z.symm (s.2 104 (by omega) (by omega))
    · exact absurd z.symm (s.2 105 (by omega) (by omega))
  · rw [h3]
    refine ⟨fun z => ?_, fun z => ?_⟩
    · rw [← h4]
      rcases (show j = 103 ∨ j = 104 ∨ j = 105 by omega) with e | e | e
      · exact Or.inl (by rw [e])
      · exact Or.inr (Or.inl (by rw [e]))
      · exact Or.inr (Or.inr (by rw [e]))
    · by_cases c : j < 103
      · have := patL_first j c
        rw [h4] at this
        rcases z with z | z | z
        · exact absurd z this.1
        · exact absurd z this.2.1
        · exact absurd z this.2.2
      · omega
theorem idx_rg (v : Int) : -1 ≤ idxI v patL 0 ∧ idxI v patL 0 < 106 := by
  have pl := patL_len
  have s := idxI_spec v patL 106 0 (by rw [pl])
  rw [List.drop_zero] at s
  rcases s with s | ⟨j, h1, h2, h3, h4, h5⟩
  · rw [s.1]; decide
  · rw [h3]; omega
theorem idx_neg : idxI (-1) patL 0 = -1 := by
  have pl := patL_len
  have s := idxI_spec (-1) patL 106 0 (by rw [pl])
  rw [List.drop_zero] at s
  rcases s with s | ⟨j, h1, h2, h3, h4, h5⟩
  · exact s.1
  · have := patL_rg j (by omega)
    omega
def mBr (h : jH) (m : Nat) (t : List Int) (lo wi : Int) (fr : Bool) : Prop := mSh h m ∧ mTb h m ∧ mRow h m 843 27 2000 t ∧ hI h 844 m = lo ∧ hI h 845 m = wi ∧ hI h 846 m = b2i fr ∧ 0 ≤ lo ∧ 0 ≤ wi ∧ lo + wi ≤ t.length
theorem mFr.br {m : Nat} {fs as : List Nat} {h h1 : jH} {t : List Int} {lo wi : Int} {fr : Bool} (p : mFr m fs as h h1) (B : mBr h m t lo wi fr) (n : mNt fs as) (c : (843 ∉ fs ∧ 27 ∉ as) ∧ 844 ∉ fs ∧ 845 ∉ fs ∧ 846 ∉ fs) : mBr h1 m t lo wi fr := by
  obtain ⟨q1, q2, q3, q4, q5, q6, q7⟩ := B
  exact ⟨p.sh q1, p.tb q2 n, p.row q3 c.1.1 c.1.2, (p.i c.2.1).trans q4, (p.i c.2.2.1).trans q5, (p.i c.2.2.2).trans q6, q7⟩
theorem plc_rg {lo wi : Int} {fr : Bool} {i : Int} (h0 : 0 ≤ i) (h1 : i < wi) : lo ≤ plcV lo wi fr i ∧ plcV lo wi fr i < lo + wi := by
  unfold plcV
  split <;> omega
section MB
variable {d m : Nat} {h : jH} {Q : jO → jH → Prop} {t : List Int} {lo wi : Int} {fr : Bool}
theorem n_placeOf {i : Int} (hi : -10 ≤ i ∧ i < 3000) (B : mBr h m t lo wi fr) (k : Q (.inl (some (jI (plcV lo wi fr i)))) h) : jCall d mX11_placeOf [jR m, jI i] h Q := by
  obtain ⟨H, T, R, q4, q5, q6, q7, q8, q9⟩ := B
  have l2 := R.2.1
  unfold plcV at k
  refine bX11_placeOf (fun _ _ => ⟨H.k, ?_⟩)
  rw [q6, q4, q5]
  refine fun _ => ⟨fun z _ => ⟨⟨by omega, by omega⟩, ?_⟩, fun z _ _ => ⟨⟨by omega, by omega⟩, ⟨by omega, by omega⟩, ⟨by omega, by omega⟩, ?_⟩⟩
  · rw [if_neg (by rw [(b2i_eq _).mp z]; decide)] at k; exact k
  · rw [if_pos ((b2i_ne _).mp z)] at k; exact k
theorem n_bitsAt_loop {K N : Nat} (hb : bitL t) (hk : (K : Int) + N ≤ wi) (hN : N ≤ 13) (B : mBr h m t lo wi fr) (n : Nat) : ∀ (i : Nat) (v : Int), i + n = N → 0 ≤ v → v < ((2 ^ i : Nat) : Int) → Q (.inl (some (jI (patB t lo wi fr n ((K : Int) + i) v)))) h → jWp (d + 1) mX11_bitsAt 5 [(0, jR m), (1, jI K), (2, jI N), (3, jI v), (4, jI i)] [] h Q := by
  obtain ⟨H, T, R, q4, q5, q6, q7, q8, q9⟩ := id B
  have l2 := R.2.1
  induction n with
  | zero =>
    intro i v hi v0 v1 k
    exact bX11_bitsAt_5 (fun _ _ _ _ _ => ⟨fun _ => k, fun z => by omega⟩)
  | succ n ih =>
    intro i v hi v0 v1 k
    have p13 : (2 : Nat) ^ i ≤ 2 ^ 13 := Nat.pow_le_pow_right (by decide) (by omega)
    have ps : (2 : Nat) ^ (i + 1) = 2 ^ i * 2 := rfl
    rw [show (2 : Nat) ^ 13 = 8192 by decide] at p13
    unfold patB at k
    have pr := plc_rg (lo := lo) (wi := wi) (fr := fr) (i := (K : Int) + i) (by omega) (by omega)
    have el : lAt t (plcV lo wi fr ((K : Int) + i)) = t.getD (plcV lo wi fr ((K : Int) + i)).toNat 0 := lAt_in (by omega) (by omega)
    have g := R.get (i := plcV lo wi fr ((K : Int) + i)) (by omega) (by omega)
    have mb : t.getD (plcV lo wi fr ((K : Int) + i)).toNat 0 = 0 ∨ t.getD (plcV lo wi fr ((K : Int) + i)).toNat 0 = 1 := by
      refine hb _ ?_
      rw [List.getD_eq_getElem?_getD, List.getElem?_eq_getElem (by omega)]
      exact List.getElem_mem _
    rw [el] at k
    generalize (2 : Nat) ^ i = q at *
    refine bX11_bitsAt_5 (fun _ _ _ _ _ => ⟨fun z => by omega, fun z => ⟨⟨by omega, by omega⟩, H.k, ⟨by omega, by omega⟩, n_placeOf ⟨by omega, by omega⟩ B ⟨_, rfl, ?_⟩⟩⟩)
    rw [H.r842, H.k842, H.n842, g]
    generalize t.getD (plcV lo wi fr ((K : Int) + i)).toNat 0 = c at *
    refine ⟨.refl _, by omega, by omega, fun _ => ⟨⟨by omega, by omega⟩, ⟨by omega, by omega⟩, ih (i + 1) _ (by omega) (by omega) (by rw [ps]; omega) ?_⟩⟩
    rw [show (K : Int) + ((i + 1 : Nat) : Int) = (K : Int) + i + 1 by omega, Int.mul_comm 2 v]
    exact k
theorem n_bitsAt {K N : Nat} (hb : bitL t) (hk : (K : Int) + N ≤ wi) (hN : N ≤ 13) (B : mBr h m t lo wi fr) (k : Q (.inl (some (jI (patB t lo wi fr N K 0)))) h) : jCall (d + 1) mX11_bitsAt [jR m, jI K, jI N] h Q := by
  refine bX11_bitsAt (fun _ _ _ => n_bitsAt_loop hb hk hN B N 0 0 (by omega) (by decide) (by decide) ?_)
  rw [show (K : Int) + ((0 : Nat) : Int) = K by omega]
  exact k
theorem n_chr_loop {v : Int} (H : mSh h m) (T : mTb h m) (n : Nat) : ∀ i : Nat, i + n = 106 → Q (.inl (some (jI (idxI v (patL.drop i) i)))) h → jWp (d + 1) mX11_characterAt 51 [(0, jR m), (2, jI v), (3, jI i)] [] h Q := by
  have pl := patL_len
  induction n with
  | zero =>
    intro i hi k
    rw [List.drop_eq_nil_of_le (by omega)] at k
    exact bX11_characterAt_51 (fun _ _ _ => ⟨fun _ => k, fun z => by omega⟩)
  | succ n ih =>
    intro i hi k
    rw [drop_getD (by omega)] at k
    unfold idxI at k
    refine bX11_characterAt_51 (fun _ _ _ => ⟨fun z => by omega, fun z => ⟨H.k, ?_⟩⟩)
    rw [H.r835, H.k835, H.n835, T.2.2.2.2.1 i (by omega)]
    refine ⟨.refl _, by omega, by omega, fun _ => ⟨fun w => ⟨⟨by omega, by omega⟩, ?_⟩, fun w => ?_⟩⟩
    · rw [if_neg w] at k; exact ih (i + 1) (by omega) k
    · rw [if_pos w] at k; exact k
theorem n_characterAt {K : Nat} (hb : bitL t) (hK : K ≤ 3000) (B : mBr h m t lo wi fr) (k : Q (.inl (some (jI (chaV t lo wi fr K)))) h) : jCall (d + 2) mX11_characterAt [jR m, jI K] h Q := by
  obtain ⟨H, T, R, q4, q5, q6, q7, q8, q9⟩ := id B
  have l2 := R.2.1
  unfold chaV stpB patA at k
  have s11 : ¬ ((K : Int) + 13 ≤ wi ∧ patB t lo wi fr 13 K 0 = patS) → j32 ((K : Int) + 11) ∧ (((K : Int) + 11 ≤ wi → jCall (d + 1) mX11_bitsAt [jR m, jI K, jI 11] h (fun o h45 => ∃ v45, o = .inl (some (jI v45)) ∧ jWp (d + 2) mX11_characterAt 51 [(0, jR m), (2, jI v45), (3, jI 0)] [] h45 Q)) ∧ (¬ ((K : Int) + 11 ≤ wi) → Q (.inl (some (jI (-1)))) h)) := fun ns => by
    have k2 : Q (.inl (some (jI (idxI (if (K : Int) + 11 ≤ wi then patB t lo wi fr 11 K 0 else -1) patL 0)))) h := by
      by_cases c : (K : Int) + 13 ≤ wi
      · rw [if_neg (by rw [decide_eq_true_eq, show ((13 : Nat) : Int) = 13 from rfl, if_pos c]; exact fun q => ns ⟨c, q⟩)] at k
        exact k
      · rw [if_neg (by rw [decide_eq_true_eq, show ((13 : Nat) : Int) = 13 from rfl, if_neg c, patS_is]; decide)] at k
        exact k
    refine ⟨⟨by omega, by omega⟩, fun z => n_bitsAt (N := 11) hb (by omega) (by decide) B ⟨_, rfl, n_chr_loop (d := d + 1) H T 106 0 rfl ?_⟩, fun z => ?_⟩
    · rw [if_pos z] at k2
      rw [List.drop_zero]
      exact k2
    · rw [if_neg z, idx_neg] at k2
      exact k2
  refine bX11_characterAt (fun _ _ => ⟨⟨by omega, by omega⟩, H.k, ?_⟩)
  rw [q5]
  refine fun _ => ⟨fun z => s11 (fun q => by omega), fun z => n_bitsAt (N := 13) hb (by omega) (by decide) B ⟨_, rfl, H.k, ?_⟩⟩
  rw [T.2.2.2.2.2, q5]
  refine fun _ => ⟨fun w => ?_, fun w => ?_⟩
  · have := s11 (fun q => w q.2)
    exact ⟨this.1, fun _ => this.2⟩
  · rw [if_pos (by rw [decide_eq_true_eq, show ((13 : Nat) : Int) = 13 from rfl, if_pos (by omega)]; exact w)] at k
    exact k
theorem n_begins {f2 : Bool} (hb : bitL t) (B : mBr h m t lo wi fr) (k : mBr (sI h 846 m (b2i f2)) m t lo wi f2 → Q (.inl (some (jI (b2i (begV t lo wi f2))))) (sI h 846 m (b2i f2))) : jCall (d + 2) mX11_begins [jR m, jI (b2i f2)] h Q := by
  obtain ⟨H, T, R, q4, q5, q6, q7, q8, q9⟩ := id B
  have f1 : mFr m [846] [] h (sI h 846 m (b2i f2)) := mFr.rfl.sI (by decide)
  have B1 : mBr (sI h 846 m (b2i f2)) m t lo wi f2 := ⟨f1.sh H, f1.tb T (by decide), f1.row R (by decide) (by decide), (f1.i (by decide)).trans q4, (f1.i (by decide)).trans q5, by rw [hI_sI, if_pos ⟨.refl _, .refl _⟩], q7, q8, q9⟩
  have kk := k B1
  have pt := B1.2.1.2.2.2.2.1
  unfold begV at kk
  refine bX11_begins (fun _ _ => ⟨H.k, b2i_rg f2, ?_⟩)
  rw [B1.2.2.2.2.1]
  refine fun _ => ⟨fun z => n_bitsAt (K := 0) (N := 11) hb (by omega) (by decide) B1 ⟨_, rfl, B1.1.k, ?_⟩, fun z => ?_⟩
  · have p103 : hA (sI h 846 m (b2i f2)) (m + 22) 103 = patL.getD 103 0 := pt 103 (by decide)
    have p104 : hA (sI h 846 m (b2i f2)) (m + 22) 104 = patL.getD 104 0 := pt 104 (by decide)
    have p105 : hA (sI h 846 m (b2i f2)) (m + 22) 105 = patL.getD 105 0 := pt 105 (by decide)
    rw [B1.1.r835, B1.1.k835, B1.1.n835, p103, p104, p105, show ((0 : Nat) : Int) = 0 from rfl]
    have pa : patA t lo wi f2 0 11 = patB t lo wi f2 11 0 0 := by unfold patA; rw [if_pos (by omega)]
    rw [pa] at kk
    have y : (patB t lo wi f2 11 0 0 = patL.getD 103 0 ∨ patB t lo wi f2 11 0 0 = patL.getD 104 0 ∨ patB t lo wi f2 11 0 0 = patL.getD 105 0) → Q (.inl (some (jI 1))) (sI h 846 m (b2i f2)) := fun q => by rw [decide_eq_true ((idx_start _).mpr q)] at kk; exact kk
    have n : ¬ (patB t lo wi f2 11 0 0 = patL.getD 103 0 ∨ patB t lo wi f2 11 0 0 = patL.getD 104 0 ∨ patB t lo wi f2 11 0 0 = patL.getD 105 0) → Q (.inl (some (jI 0))) (sI h 846 m (b2i f2)) := fun q => by rw [decide_eq_false (fun w => q ((idx_start _).mp w))] at kk; exact kk
    exact ⟨.refl _, by decide, by decide, fun _ => ⟨fun w => y (Or.inl w), fun w => ⟨by decide, by decide, fun _ => ⟨fun w2 => y (Or.inr (Or.inl w2)), fun w2 => ⟨by decide, by decide, fun _ => ⟨fun w3 => n (fun q => by rcases q with q | q | q; exact w q; exact w2 q; exact w3 q), fun w3 => y (Or.inr (Or.inr w3))⟩⟩⟩⟩⟩⟩
  · have pa : patA t lo wi f2 0 11 = -1 := by unfold patA; rw [if_neg (by omega)]
    rw [pa, idx_neg] at kk
    exact kk
/-- the characters so far, and where they begin -/
def mCh (h : jH) (m : Nat) (lo wi : Int) (fr : Bool) (cs ps : List Int) : Prop := ps.length = cs.length ∧ (∀ i : Nat, i < cs.length → hA h (m + 28) (i : Int) = cs.getD i 0) ∧ ∀ i : Nat, i < cs.length → plcV lo wi fr (hA h (m + 29) (i : Int)) = ps.getD i 0 ∧ 0 ≤ hA h (m + 29) (i : Int) ∧ hA h (m + 29) (i : Int) ≤ 2000
theorem n_row_loop (hb : bitL t) (hw : 1 ≤ wi) (f : Nat) : ∀ (K : Nat) (cs ps : List Int) (h : jH), cs.length + f = 100 → K = 11 * cs.length → mBr h m t lo wi fr → mCh h m lo wi fr cs ps → (∀ x ∈ cs, 0 ≤ x ∧ x < 106) → (∀ h' a b, (rcF t lo wi fr f K cs ps).2.2 = some (a, b) → mFr m [823, 824] [28, 29] h h' → hI h' 823 m = a → hI h' 824 m = b → Q (.inl (some (jI (-1)))) h') → (∀ h' cs' ps', rcF t lo wi fr f K cs ps = (cs' ++ [106], ps', none) → mFr m [] [28, 29] h h' → cs.length ≤ cs'.length → 1 ≤ cs'.length → cs'.length ≤ 100 → ps'.length = cs'.length + 1 → (∀ x ∈ cs', 0 ≤ x ∧ x < 106) → mCh h' m lo wi fr cs' (ps'.take cs'.length) → Q (.inl (some (jI cs'.length))) h') → jWp (d + 3) mX11_row 4 [(0, jR m), (1, jI cs.length), (2, jI K)] [] h Q := by
  have bad : ∀ (K : Nat) (h : jH), mBr h m t lo wi fr → K ≤ 3000 → (∀ h', mFr m [823, 824] [28, 29] h h' → hI h' 823 m = 12 → hI h' 824 m = plcV lo wi fr (min K (wi - 1)) → Q (.inl (some (jI (-1)))) h') → jWp (d + 3) mX11_row 53 [(0, jR m), (2, jI K)] [] h Q := fun K h B hK k => by
    have H := B.1
    have l2 := B.2.2.1.2.1
    have w9 := B.2.2.2.2.2.2
    have f0 : ∀ b : Int, mFr m [823, 824] [28, 29] h (sI (sI h 823 m 12) 824 m b) := fun b => (mFr.rfl.sI (by decide)).sI (by decide)
    have g1 : ∀ b : Int, hI (sI (sI h 823 m 12) 824 m b) 823 m = 12 ∧ hI (sI (sI h 823 m 12) 824 m b) 824 m = b := fun b => ⟨by rw [hI_sI, if_neg (by omega), hI_sI, if_pos ⟨.refl _, .refl _⟩], by rw [hI_sI, if_pos ⟨.refl _, .refl _⟩]⟩
    have r75 : ∀ q : Int, q = min (K : Int) (wi - 1) → jWp (d + 3) mX11_row 75 [] [jI q, jR m, jI 12, jR m] h Q := fun q eq =>
      bX11_row_75 (fun _ => ⟨H.k, n_placeOf ⟨by omega, by omega⟩ B ⟨_, rfl, H.k, n_fault H ⟨_, rfl, k _ (f0 _) (g1 _).1 (by rw [(g1 _).2, eq])⟩⟩⟩)
    refine bX11_row_53 (fun _ _ => ⟨H.k, ?_⟩)
    rw [B.2.2.2.2.1]
    exact fun _ => ⟨fun z => ⟨⟨by omega, by omega⟩, r75 _ (by omega)⟩, fun z => r75 _ (by omega)⟩
  induction f with
  | zero =>
    intro K cs ps h hf hK B C rg kf kt
    have n100 : cs.length = 100 := by omega
    have go := bad K h B (by omega) (fun h' p a b => kf h' _ _ (by rfl) p a b)
    have cr : -1 ≤ chaV t lo wi fr K := by
      unfold chaV
      have := idx_rg (patA t lo wi fr K 11)
      split <;> omega
    refine bX11_row_4 (fun _ _ _ => ⟨B.1.k, n_characterAt (d := d) hb (by omega) B ⟨_, rfl, fun _ => ⟨fun _ => go, fun _ => ⟨fun _ => go, fun z => absurd (by omega) z⟩⟩, fun _ => ⟨fun _ => ⟨fun _ => go, fun _ => ⟨fun _ => go, fun z => absurd (by omega) z⟩⟩, fun _ => ⟨fun _ => go, fun _ => ⟨fun _ => go, fun z => absurd (by omega) z⟩⟩⟩⟩⟩)
  | succ f ih =>
    intro K cs ps h hf hK B C rg kf kt
    obtain ⟨H, T, R, q4, q5, q6, q7, q8, q9⟩ := id B
    have l2 := R.2.1
    have go : badC t lo wi fr K cs.length = true → jWp (d + 3) mX11_row 53 [(0, jR m), (2, jI K)] [] h Q := fun z =>
      bad K h B (by omega) (fun h' p a b => kf h' _ _ (by unfold rcF; rw [if_pos z]) p a b)
    have cv : chaV t lo wi fr K = if stpB t lo wi fr K = true then 106 else idxI (patA t lo wi fr K 11) patL 0 := rfl
    have ir := idx_rg (patA t lo wi fr K 11)
    have sp : (stpB t lo wi fr K = true ↔ chaV t lo wi fr K = 106) := by
      rw [cv]
      by_cases z : stpB t lo wi fr K = true
      · rw [if_pos z]; exact ⟨fun _ => rfl, fun _ => z⟩
      · rw [if_neg z]; exact ⟨fun y => absurd y z, fun y => by omega⟩
    have cr : -1 ≤ chaV t lo wi fr K ∧ chaV t lo wi fr K ≤ 106 := by
      rw [cv]; split <;> omega
    -- whether it is bad
    have bc : ∀ st : Bool, (st = true ↔ (103 ≤ chaV t lo wi fr K ∧ chaV t lo wi fr K ≤ 105)) → badC t lo wi fr K cs.length = (decide (chaV t lo wi fr K < 0) || !(st == decide (cs.length = 0))) := fun st es => by
      unfold badC
      have e1 : decide (chaV t lo wi fr K = -1) = decide (chaV t lo wi fr K < 0) := decide_eq_decide.mpr (by omega)
      have e2 : (decide (103 ≤ chaV t lo wi fr K) && !stpB t lo wi fr K) = st := by
        rw [Bool.eq_iff_iff, Bool.and_eq_true, decide_eq_true_iff, Bool.not_eq_true', es]
        constructor
        · rintro ⟨a, b⟩
          have : ¬ chaV t lo wi fr K = 106 := fun q => by rw [sp.mpr q] at b; cases b
          omega
        · rintro ⟨a, b⟩
          refine ⟨a, ?_⟩
          cases q : stpB t lo wi fr K with
          | false => rfl
          | true => have := sp.mp q; omega
      rw [e1, e2]
    -- it goes on
    have k50 : ∀ s0 s1 : Int, ¬ (chaV t lo wi fr K < 0) → ((s1 = s0 → badC t lo wi fr K cs.length = false) ∧ (¬ s1 = s0 → badC t lo wi fr K cs.length = true)) → jWp (d + 3) mX11_row 50 [(0, jR m), (1, jI cs.length), (2, jI K), (3, jI (chaV t lo wi fr K))] [jI s0, jI s1] h Q := fun s0 s1 c0 es => by
      refine bX11_row_50 (fun _ _ _ _ => ⟨fun z => ?_, fun z => go (es.2 z)⟩)
      have nb := es.1 z
      unfold rcF at kf kt
      rw [if_neg (by rw [nb]; decide)] at kf kt
      refine ⟨fun n106 => ⟨H.k, ?_⟩, fun e106 => ⟨⟨by omega, by omega⟩, H.k, ?_⟩⟩
      · rw [if_neg (fun q => n106 (sp.mp q))] at kf kt
        rw [H.r847, H.k847, H.n847, H.r848, H.k848, H.n848]
        have f1 : mFr m [] [28, 29] h (sA (sA h (m + 28) cs.length (chaV t lo wi fr K)) (m + 29) cs.length K) := (mFr.rfl.sA (by decide)).sA (by decide)
        have al : (cs ++ [chaV t lo wi fr K]).length = cs.length + 1 := by simp
        refine ⟨.refl _, by omega, by omega, .refl _, by omega, ⟨by omega, by omega⟩, ⟨by omega, by omega⟩, ?_⟩
        rw [show (cs.length : Int) + 1 = ((cs ++ [chaV t lo wi fr K]).length : Int) by omega, show (K : Int) + 11 = ((K + 11 : Nat) : Int) by omega] at *
        refine ih (K + 11) (cs ++ [chaV t lo wi fr K]) (ps ++ [plcV lo wi fr K]) _ (by omega) (by omega) (f1.br B (by decide) (by decide)) ⟨by rw [al, List.length_append]; simp; exact C.1, fun i hi => ?_, fun i hi => ?_⟩ (fun x hx => ?_) (fun h' a b r p g1 g2 => kf h' a b r ((f1.mono (by decide) (by decide)).trans p) g1 g2) (fun h' cs' ps' r p l1 l2 l3 l4 l5 C' => kt h' cs' ps' r (f1.trans p) (by omega) l2 l3 l4 l5 C')
        · rw [al] at hi
          rw [hA_sA, if_neg (by omega), hA_sA]
          by_cases e : i = cs.length
          · subst e; rw [if_pos ⟨.refl _, .refl _⟩]; simp
          · rw [if_neg (by omega), app_getL _ _ _ (by omega)]; exact C.2.1 i (by omega)
        · rw [al] at hi
          rw [hA_sA]
          by_cases e : i = cs.length
          · subst e
            rw [if_pos ⟨.refl _, .refl _⟩, app_getD _ _ _ (by rw [C.1]; exact Nat.le_refl _), C.1, Nat.sub_self]
            exact ⟨rfl, by omega, by omega⟩
          · rw [if_neg (by omega), hA_sA, if_neg (by omega), app_getL _ _ _ (by rw [C.1]; omega)]; exact C.2.2 i (by omega)
        · rcases List.mem_append.mp hx with e | e
          · exact rg x e
          · rw [List.mem_singleton.mp e]
            omega
      · rw [if_pos (sp.mpr e106)] at kf kt
        rw [q5]
        have c1 : 1 ≤ cs.length := by
          by_cases c : cs.length = 0
          · have := bc false ⟨fun w => absurd w (by decide), fun w => by omega⟩
            rw [nb, decide_eq_false c0, c] at this
            cases this
          · omega
        refine fun _ => ⟨fun w => ?_, fun w => ?_⟩
        · refine kt h cs (ps ++ [plcV lo wi fr K]) ?_ .rfl (Nat.le_refl _) c1 (by omega) (by rw [List.length_append, C.1]; rfl) rg ?_
          · rw [if_neg (by omega)]
          · rw [List.take_append_of_le_length (by rw [C.1]; exact Nat.le_refl _), ← C.1, List.take_length]
            exact C
        · have f0 : mFr m [823, 824] [28, 29] h (sI (sI h 823 m 13) 824 m (plcV lo wi fr ((K : Int) + 13))) := (mFr.rfl.sI (by decide)).sI (by decide)
          refine n_placeOf ⟨by omega, by omega⟩ B ⟨_, rfl, H.k, n_fault H ⟨_, rfl, kf _ 13 (plcV lo wi fr ((K : Int) + 13)) ?_ f0 ?_ ?_⟩⟩
          · rw [if_pos (by omega)]
          · rw [hI_sI, if_neg (by omega), hI_sI, if_pos ⟨.refl _, .refl _⟩]
          · rw [hI_sI, if_pos ⟨.refl _, .refl _⟩]
    have n1 : ¬ (cs.length : Int) = 100 := by omega
    have ns : ∀ st : Bool, (st = true ↔ (103 ≤ chaV t lo wi fr K ∧ chaV t lo wi fr K ≤ 105)) → ((chaV t lo wi fr K < 0 → jWp (d + 3) mX11_row 53 [(0, jR m), (2, jI K)] [] h Q) ∧ (¬ (chaV t lo wi fr K < 0) → (((cs.length : Int) = 100 → jWp (d + 3) mX11_row 53 [(0, jR m), (2, jI K)] [] h Q) ∧ (¬ ((cs.length : Int) = 100) → (((cs.length : Int) ≠ 0 → jWp (d + 3) mX11_row 50 [(0, jR m), (1, jI cs.length), (2, jI K), (3, jI (chaV t lo wi fr K))] [jI 0, jI (b2i st)] h Q) ∧ ((cs.length : Int) = 0 → jWp (d + 3) mX11_row 50 [(0, jR m), (1, jI cs.length), (2, jI K), (3, jI (chaV t lo wi fr K))] [jI 1, jI (b2i st)] h Q)))))) := fun st es => by
      have e := bc st es
      refine ⟨fun z => go (by rw [e, decide_eq_true z]; rfl), fun z => ⟨fun w => absurd w n1, fun _ => ⟨fun w => k50 0 (b2i st) z ⟨fun y => ?_, fun y => ?_⟩, fun w => k50 1 (b2i st) z ⟨fun y => ?_, fun y => ?_⟩⟩⟩⟩
      · rw [e, decide_eq_false z, decide_eq_false (by omega), (b2i_eq _).mp y]; rfl
      · rw [e, decide_eq_false z, decide_eq_false (by omega), (b2i_ne _).mp y]; rfl
      · rw [e, decide_eq_false z, decide_eq_true (by omega), (b2i_ne st).mp (by rw [y]; decide)]; rfl
      · have s0 : st = false := by cases st; rfl; exact absurd rfl y
        rw [e, decide_eq_false z, decide_eq_true (by omega), s0]; rfl
    refine bX11_row_4 (fun _ _ _ => ⟨H.k, n_characterAt (d := d) hb (by omega) B ⟨_, rfl, fun z => ns false ⟨fun w => absurd w (by decide), fun w => by omega⟩, fun z => ⟨fun z2 => ns false ⟨fun w => absurd w (by decide), fun w => by omega⟩, fun z2 => ns true ⟨fun _ => by omega, fun _ => rfl⟩⟩⟩⟩)
end MB
