/-! THE MODEL: the string of a symbol, its characters -/
theorem mStr.put {h : jH} {m : Nat} {l : List Int} (S : mStr h m l) (c : Int) : mStr (sA h (m + 26) l.length c) m (l ++ [c]) := fun i hi => by
  rw [hA_sA]
  rw [List.length_append] at hi
  simp only [List.length_cons, List.length_nil] at hi
  by_cases e : i = l.length
  · subst e
    rw [if_pos ⟨.refl _, .refl _⟩]
    simp
  · rw [if_neg (by omega), app_getL _ _ _ (by omega)]
    exact S i (by omega)
section MSt
variable {d m : Nat} {h : jH} {Q : jO → jH → Prop} {es : List jE}
theorem n_str_128 {f to e : Int} {x : jE} (he : 0 ≤ e ∧ e < 200) (hb : ∀ c ∈ x.2.2.1, 32 ≤ c ∧ c < 128) (n : Nat) : ∀ (i : Nat) (h : jH) (l : List Int), i + n = x.2.2.1.length → mSh h m → mEl h m e x → mStr h m l → l.length + n ≤ 48 → (∀ h', mFr m [] [26] h h' → mStr h' m (l ++ x.2.2.1.drop i) → jWp (d + 1) mX11_stringOf 5 [(0, jR m), (1, jI f), (2, jI to), (3, jI (l ++ x.2.2.1.drop i).length), (4, jI (e + 1))] [] h' Q) → jWp (d + 1) mX11_stringOf 128 [(0, jR m), (1, jI f), (2, jI to), (3, jI l.length), (4, jI e), (7, jI i)] [] h Q := by
  induction n with
  | zero =>
    intro i h l hi H E S hl k
    refine bX11_stringOf_128 (fun _ _ _ _ _ _ => ⟨H.k, ?_⟩)
    rw [H.r815, H.k815, H.n815, E.2.2.2.1]
    rw [List.drop_of_length_le (by omega), List.append_nil] at k
    exact ⟨.refl _, by omega, by omega, fun _ => ⟨fun _ => ⟨⟨by omega, by omega⟩, k h .rfl S⟩, fun z => by omega⟩⟩
  | succ n ih =>
    intro i h l hi H E S hl k
    have l90 := E.2.1
    have m1 : x.2.2.1.getD i 0 ∈ x.2.2.1 := by
      rw [List.getD_eq_getElem?_getD, List.getElem?_eq_getElem (by omega)]
      exact List.getElem_mem _
    have c := hb _ m1
    have v := E.2.2.2.2.1 i (by omega)
    rw [drop_getD (l := x.2.2.1) (by omega)] at k
    refine bX11_stringOf_128 (fun _ _ _ _ _ _ => ⟨H.k, ?_⟩)
    rw [H.r815, H.k815, H.n815, E.2.2.2.1, H.r817, H.k817, H.n817, v, H.r841, H.k841, H.n841]
    have f1 : mFr m [] [26] h (sA h (m + 26) l.length (x.2.2.1.getD i 0)) := mFr.rfl.sA (by decide)
    refine ⟨.refl _, by omega, by omega, fun _ => ⟨fun z => by omega, fun z => ⟨⟨by omega, by omega⟩, ⟨by omega, by omega⟩, .refl _, by omega, by omega, fun r => ⟨.refl _, by omega, by omega, r, ⟨by omega, by omega⟩, ⟨by omega, by omega⟩, ?_⟩⟩⟩⟩
    have al : ((l ++ [x.2.2.1.getD i 0]).length : Int) = l.length + 1 := by simp
    rw [← al]
    refine ih (i + 1) _ _ (by omega) (f1.sh H) (E.to (f1.same (by decide) e)) (S.put _) (by rw [List.length_append]; simp; omega) (fun h' p S' => ?_)
    rw [List.append_assoc, List.singleton_append] at S' ⊢
    exact k h' (f1.trans p) S'
theorem n_str_84 {f to e i : Int} (h0 : 0 ≤ i) (h1 : i < 457) (n : Nat) : ∀ (h : jH) (l : List Int), n ≤ 4 → mSh h m → mTb h m → mStr h m l → l.length + n ≤ 48 → (∀ h', mFr m [] [26] h h' → mStr h' m (l ++ aiF (aN i) n (max (du n) 1)) → jWp (d + 1) mX11_stringOf 128 [(0, jR m), (1, jI f), (2, jI to), (3, jI (l ++ aiF (aN i) n (max (du n) 1)).length), (4, jI e), (7, jI 0)] [] h' Q) → jWp (d + 1) mX11_stringOf 84 [(0, jR m), (1, jI f), (2, jI to), (3, jI l.length), (4, jI e), (5, jI i), (6, jI (du n))] [] h Q := by
  have a := (tabA h0 h1).1
  induction n with
  | zero =>
    intro h l hn H T S hl k
    rw [show aiF (aN i) 0 (max (du 0) 1) = [] from rfl, List.append_nil] at k
    exact bX11_stringOf_84 (fun _ _ _ _ _ _ _ => ⟨fun _ => k h .rfl S, fun z => absurd (by decide) z⟩)
  | succ n ih =>
    intro h l hn H T S hl k
    have t := T.2.2.1 i h0 h1
    have e1 : 0 < du (n + 1) ∧ max (du (n + 1)) 1 = du (n + 1) ∧ du (n + 1) / 10 = du n ∧ max (du (n + 1) / 10) 1 = max (du n) 1 := by
      rcases (show n = 0 ∨ n = 1 ∨ n = 2 ∨ n = 3 by omega) with e | e | e | e <;> subst e <;> decide
    have dv : 0 ≤ aN i / du (n + 1) := Int.ediv_nonneg a.2.2.1 (by omega)
    have ea : aiF (aN i) (n + 1) (max (du (n + 1)) 1) = (48 + aN i / du (n + 1) % 10) :: aiF (aN i) n (max (du n) 1) := by
      rw [e1.2.1]
      show (48 + aN i / du (n + 1) % 10) :: aiF (aN i) n (max (du (n + 1) / 10) 1) = _
      rw [e1.2.2.2]
    rw [ea] at k
    refine bX11_stringOf_84 (fun _ _ _ _ _ _ _ => ⟨fun z => by omega, fun z => ⟨H.k, ?_⟩⟩)
    rw [H.r801, H.k801, H.n801, t.1, H.r841, H.k841, H.n841, e1.2.2.1]
    generalize hc : 48 + aN i / du (n + 1) % 10 = c at *
    rw [show (c + 128) % 256 - 128 = c by omega]
    have f1 : mFr m [] [26] h (sA h (m + 26) l.length c) := mFr.rfl.sA (by decide)
    refine ⟨.refl _, h0, by omega, fun _ => ⟨a.2.2.1, by omega, dv, ⟨by omega, by omega⟩, .refl _, by omega, by omega, ⟨by omega, by omega⟩, by omega, ?_⟩⟩
    have al : ((l ++ [c]).length : Int) = l.length + 1 := by simp
    rw [← al]
    refine ih _ _ (by omega) (f1.sh H) (f1.tb T (by decide)) (S.put _) (by rw [List.length_append]; simp; omega) (fun h' p S' => ?_)
    rw [List.append_assoc, List.singleton_append] at S' ⊢
    exact k h' (f1.trans p) S'
/-- an AI and its value -/
theorem n_str_59 {f to : Int} {k : Nat} {l : List Int} (hk : k < es.length) (hb : ∀ y ∈ es, ∀ c ∈ y.2.2.1, 32 ≤ c ∧ c < 128) (H : mSh h m) (T : mTb h m) (L : mLst h m 0 es) (S : mStr h m l) (hl : l.length + (aiStr (es.getD k dE).1 (es.getD k dE).2.1 ++ (es.getD k dE).2.2.1).length ≤ 48) (kk : ∀ h', mFr m [] [26] h h' → mStr h' m (l ++ (aiStr (es.getD k dE).1 (es.getD k dE).2.1 ++ (es.getD k dE).2.2.1)) → jWp (d + 1) mX11_stringOf 5 [(0, jR m), (1, jI f), (2, jI to), (3, jI (l ++ (aiStr (es.getD k dE).1 (es.getD k dE).2.1 ++ (es.getD k dE).2.2.1)).length), (4, jI ((k : Int) + 1))] [] h' Q) : jWp (d + 1) mX11_stringOf 59 [(0, jR m), (1, jI f), (2, jI to), (3, jI l.length), (4, jI k), (5, jI (hA h (m + 12) k)), (6, jI 1), (7, jI 1)] [] h Q := by
  have l20 := L.2.1
  have E := L.el (i := k) (by omega) (by omega)
  rw [Int.toNat_natCast] at E
  have by' := hb _ (getD_mem hk)
  generalize es.getD k dE = x at *
  have u := tabX E.1
  have t := E.tab T
  unfold aiStr at hl kk
  rw [List.length_append, aiF_len] at hl
  generalize hi : hA h (m + 12) (k : Int) = i at *
  have eN : aN i = x.1 := by rw [← E.2.2.1, hi] at u; exact u.2.2.1
  have st : ∀ (tn j : Int), 0 ≤ tn → tn ≤ 1000 → 0 ≤ j → j ≤ 4 → ((x.2.1 ≤ j → jWp (d + 1) mX11_stringOf 84 [(0, jR m), (1, jI f), (2, jI to), (3, jI l.length), (4, jI k), (5, jI i), (6, jI tn)] [] h Q) ∧ (¬ (x.2.1 ≤ j) → jWp (d + 1) mX11_stringOf 59 [(0, jR m), (1, jI f), (2, jI to), (3, jI l.length), (4, jI k), (5, jI i), (6, jI (tn * 10)), (7, jI (j + 1))] [] h Q)) → jWp (d + 1) mX11_stringOf 59 [(0, jR m), (1, jI f), (2, jI to), (3, jI l.length), (4, jI k), (5, jI i), (6, jI tn), (7, jI j)] [] h Q := fun tn j t0 t1 j0 j1 q => by
    refine bX11_stringOf_59 (fun _ _ _ _ _ _ _ _ => ⟨H.k, ?_⟩)
    rw [H.r802, H.k802, H.n802, t.2.2.2.1]
    exact ⟨.refl _, t.1, by omega, fun _ => ⟨q.1, fun z => ⟨⟨by omega, by omega⟩, ⟨by omega, by omega⟩, q.2 z⟩⟩⟩
  have fin : ∀ n : Nat, (n : Int) = x.2.1 → (if x.2.1 = 4 then 1000 else if x.2.1 = 3 then 100 else 10 : Int) = max (du n) 1 → jWp (d + 1) mX11_stringOf 84 [(0, jR m), (1, jI f), (2, jI to), (3, jI l.length), (4, jI k), (5, jI i), (6, jI (du n))] [] h Q := fun n en em => by
    refine n_str_84 t.1 t.2.1 n h l (by omega) H T S (by omega) (fun h' p S' => ?_)
    rw [em, show x.2.1.toNat = n by omega, ← eN] at kk
    refine n_str_128 (x := x) (by omega) by' x.2.2.1.length 0 h' _ (by omega) (p.sh H) (E.to (p.same (by decide) k)) S' (by rw [List.length_append, aiF_len]; omega) (fun h2 p2 S2 => ?_)
    rw [List.drop_zero, List.append_assoc] at S2 ⊢
    exact kk h2 (p.trans p2) S2
  refine st 1 1 (by decide) (by decide) (by decide) (by decide) ⟨fun z => by omega, fun z => st 10 2 (by decide) (by decide) (by decide) (by decide) ⟨fun z2 => fin 2 (by omega) ?_, fun z2 => st 100 3 (by decide) (by decide) (by decide) (by decide) ⟨fun z3 => fin 3 (by omega) ?_, fun z3 => st 1000 4 (by decide) (by decide) (by decide) (by decide) ⟨fun z4 => fin 4 (by omega) ?_, fun z4 => by omega⟩⟩⟩⟩
  · rw [if_neg (by omega), if_neg (by omega)]; decide
  · rw [if_neg (by omega), if_pos (by omega)]; decide
  · rw [if_pos (by omega)]; decide
theorem n_str_loop {f E : Nat} (hE : E ≤ es.length) (hb : ∀ y ∈ es, ∀ c ∈ y.2.2.1, 32 ≤ c ∧ c < 128) (n : Nat) : ∀ (k : Nat) (h : jH) (l : List Int), k + n = E → mSh h m → mTb h m → mLst h m 0 es → mStr h m l → l.length + (strF es f n k).length ≤ 48 → (∀ h', mFr m [] [26] h h' → mStr h' m (l ++ strF es f n k) → Q (.inl none) h') → jWp (d + 1) mX11_stringOf 5 [(0, jR m), (1, jI f), (2, jI E), (3, jI l.length), (4, jI k)] [] h Q := by
  induction n with
  | zero =>
    intro k h l hk H T L S hl kk
    have : l ++ strF es f 0 k = l := by simp [strF]
    rw [this] at kk
    exact bX11_stringOf_5 (fun _ _ _ _ _ => ⟨fun _ => kk h .rfl S, fun z => by omega⟩)
  | succ n ih =>
    intro k h l hk H T L S hl kk
    have l20 := L.2.1
    have es1 : strF es f (n + 1) k = (if sepB es f k = true then [29] else []) ++ ((aiStr (es.getD k dE).1 (es.getD k dE).2.1 ++ (es.getD k dE).2.2.1) ++ strF es f n (k + 1)) := by simp [strF]
    rw [es1] at hl kk
    have go := fun (h1 : jH) (l1 : List Int) (f1 : mFr m [] [26] h h1) (S1 : mStr h1 m l1) (e1 : l1 = l ++ (if sepB es f k = true then [29] else [])) =>
      n_str_59 (d := d) (Q := Q) (f := f) (to := E) (k := k) (l := l1) (by omega) hb (f1.sh H) (f1.tb T (by decide)) (f1.lst L (by decide)) S1 (by subst e1; simp only [List.length_append] at hl ⊢; omega) (fun h' p S' => ih (k + 1) h' _ (by omega) ((f1.trans p).sh H) ((f1.trans p).tb T (by decide)) ((f1.trans p).lst L (by decide)) S' (by subst e1; simp only [List.length_append] at hl ⊢; omega) (fun h2 p2 S2 => kk h2 ((f1.trans p).trans p2) (by subst e1; simpa using S2)))
    refine bX11_stringOf_5 (fun _ _ _ _ _ => ⟨fun z => by omega, fun z => ⟨H.k, ?_⟩⟩)
    rw [H.r814, H.k814, H.n814]
    refine ⟨.refl _, by omega, by omega, fun _ => ⟨fun w => ?_, fun w => ⟨⟨by omega, by omega⟩, by omega, by omega, ?_⟩⟩⟩
    · have sp : sepB es f k = false := by unfold sepB; rw [decide_eq_false (by omega)]; rfl
      exact go h l .rfl S (by rw [sp]; simp)
    · have F := L.el (i := ((k - 1 : Nat) : Int)) (by omega) (by omega)
      rw [Int.toNat_natCast] at F
      have sp : sepB es f k = !fixE (es.getD (k - 1) dE) := by unfold sepB; rw [decide_eq_true (by omega)]; rfl
      rw [show (k : Int) - 1 = ((k - 1 : Nat) : Int) by omega]
      refine fun _ => n_fixE H T F ⟨_, rfl, fun v => ?_, fun v => ⟨H.k, ?_⟩⟩
      · exact go h l .rfl S (by rw [sp, (b2i_ne _).mp v]; simp)
      · rw [sp, (b2i_eq _).mp v] at hl
        simp only [List.length_append, Bool.not_false, if_true, List.length_cons, List.length_nil] at hl
        rw [H.r841, H.k841, H.n841]
        have f1 : mFr m [] [26] h (sA h (m + 26) l.length 29) := mFr.rfl.sA (by decide)
        have g := go _ _ f1 (S.put 29) (by rw [sp, (b2i_eq _).mp v]; simp)
        have al : ((l ++ [(29 : Int)]).length : Int) = l.length + 1 := by simp
        rw [al, f1.a (by decide)] at g
        exact ⟨.refl _, by omega, by omega, ⟨by omega, by omega⟩, g⟩
theorem n_stringOf {f E : Nat} (hf : f ≤ E) (hE : E ≤ es.length) (hb : ∀ y ∈ es, ∀ c ∈ y.2.2.1, 32 ≤ c ∧ c < 128) (H : mSh h m) (T : mTb h m) (L : mLst h m 0 es) (hl : (strF es f (E - f) f).length ≤ 48) (kk : ∀ h', mFr m [] [26] h h' → mStr h' m (strF es f (E - f) f) → Q (.inl none) h') : jCall (d + 1) mX11_stringOf [jR m, jI f, jI E] h Q :=
  bX11_stringOf (fun _ _ _ => n_str_loop hE hb (E - f) f h [] (by omega) H T L (fun i hi => absurd hi (by simp)) (by simpa using hl) (fun h' p S => kk h' p (by simpa using S)))
theorem n_checkSum_loop {r : Nat} {l : List Int} {N : Nat} (hk : hK h r = 10) (hN : (N : Int) ≤ hN h r) (hl : N ≤ l.length) (h100 : N ≤ 110) (v : ∀ i : Nat, i < N → hA h r (i : Int) = l.getD i 0) (rg : ∀ x ∈ l, 0 ≤ x ∧ x < 107) (n : Nat) : ∀ (i : Nat) (a : Int), i + n = N → 0 ≤ a → a ≤ 12000 * i → Q (.inl (some (jI (chkS l n i a % 103)))) h → jWp d mX11_checkSum 6 [(0, jR r), (1, jI N), (2, jI a), (3, jI i)] [] h Q := by
  induction n with
  | zero =>
    intro i a hi a0 a1 k
    exact bX11_checkSum_6 (fun _ _ _ _ => ⟨fun _ => ⟨a0, k⟩, fun z => by omega⟩)
  | succ n ih =>
    intro i a hi a0 a1 k
    have m1 : l.getD i 0 ∈ l := by
      rw [List.getD_eq_getElem?_getD, List.getElem?_eq_getElem (by omega)]
      exact List.getElem_mem _
    have g := rg _ m1
    have p0 : 0 ≤ (i : Int) * l.getD i 0 := Int.mul_nonneg (by omega) g.1
    have p1 : (i : Int) * l.getD i 0 ≤ 110 * 107 := Int.mul_le_mul (by omega) (by omega) g.1 (by decide)
    unfold chkS at k
    rw [lAt_get (by omega), Int.mul_comm] at k
    refine bX11_checkSum_6 (fun _ _ _ _ => ⟨fun z => by omega, fun z => ⟨hk, by omega, by omega, ?_⟩⟩)
    rw [v i (by omega)]
    exact fun _ => ⟨⟨by omega, by omega⟩, ⟨by omega, by omega⟩, ⟨by omega, by omega⟩, ih (i + 1) _ (by omega) (by omega) (by omega) k⟩
theorem n_checkSum {r : Nat} {l : List Int} {N : Nat} (hk : hK h r = 10) (hN : (N : Int) ≤ hN h r) (h1 : 1 ≤ N) (hl : N ≤ l.length) (h100 : N ≤ 110) (v : ∀ i : Nat, i < N → hA h r (i : Int) = l.getD i 0) (rg : ∀ x ∈ l, 0 ≤ x ∧ x < 107) (k : Q (.inl (some (jI (chkV l N)))) h) : jCall d mX11_checkSum [jR r, jI N] h Q := by
  have m1 : l.getD 0 0 ∈ l := by
    rw [List.getD_eq_getElem?_getD, List.getElem?_eq_getElem (by omega)]
    exact List.getElem_mem _
  have g := rg _ m1
  have v0 := v 0 (by omega)
  refine bX11_checkSum (fun _ _ => ⟨hk, by decide, by omega, ?_⟩)
  rw [show hA h r 0 = l.getD 0 0 from v0]
  refine fun _ => n_checkSum_loop hk hN hl h100 v rg (N - 1) 1 _ (by omega) g.1 (by omega) ?_
  unfold chkV at k
  have e0 : lAt l 0 = l.getD 0 0 := lAt_get (s := l) (i := 0) (by omega)
  rw [e0, show ((N : Int) - 1).toNat = N - 1 by omega] at k
  exact k
end MSt
