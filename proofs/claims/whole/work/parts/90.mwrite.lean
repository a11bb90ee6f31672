/-! THE MODEL: writing -/
def bsV (br : Bool) (b : List Int) : List Int := if br = true then escV b else b
def clV (br : Bool) : List Int := if br = true then [41] else []
/-- what is written from element k on -/
def wrR (es : List jE) (br : Bool) (n k : Nat) : List Int := if br = true then (es.drop k).flatMap brStr else strF es 0 n k
def du : Nat → Int
  | 0 => 0
  | n + 1 => 10 ^ n
theorem brF_le : ∀ es : List jE, (∀ y ∈ es, 0 ≤ y.2.1 ∧ y.2.1 ≤ 4 ∧ y.2.2.1.length ≤ 90) → (es.flatMap brStr).length ≤ 186 * es.length
  | [] => fun _ => by simp
  | y :: t => fun h => by
    have ih := brF_le t (fun z hz => h z (List.mem_cons_of_mem _ hz))
    have hy := h y (List.mem_cons_self)
    have el := escV_len y.2.2.1
    rw [List.flatMap_cons, List.length_append]
    have : (brStr y).length ≤ 186 := by
      unfold brStr aiStr
      simp only [List.length_append, aiF_len, List.length_cons, List.length_nil]
      omega
    simp only [List.length_cons]
    omega
section MV
variable {d m : Nat} {h : jH} {Q : jO → jH → Prop} {s : jP} {es : List jE}
theorem n_put {c : Int} {l : List Int} (hc : 0 ≤ c ∧ c < 128) (H : mSh h m) (R : mRow h m 833 20 3720 l) (hl : l.length < 3720) (k : ∀ h', mFr m [833] [20] h h' → mRow h' m 833 20 3720 (l ++ [c]) → Q (.inl none) h') : jCall d mX11_put [jR m, jI c] h Q := by
  refine bX11_put (fun _ _ => ⟨H.k, ?_⟩)
  rw [R.1, H.r832, H.k832, H.n832, show (c + 128) % 256 - 128 = c by omega]
  exact fun _ => ⟨.refl _, by omega, by omega, ⟨by omega, by omega⟩, k _ ((mFr.rfl.sA (by decide)).sI (by decide)) (R.put hl c)⟩
theorem n_putAi_25 {i : Int} (h0 : 0 ≤ i) (h1 : i < 457) (n : Nat) : ∀ (h : jH) (l : List Int), n ≤ 4 → mSh h m → mTb h m → mRow h m 833 20 3720 l → l.length + n ≤ 3720 → (∀ h', mFr m [833] [20] h h' → mRow h' m 833 20 3720 (l ++ aiF (aN i) n (max (du n) 1)) → Q (.inl none) h') → jWp (d + 1) mX11_putAi 25 [(0, jR m), (1, jI i), (2, jI (du n))] [] h Q := by
  have a := (tabA h0 h1).1
  induction n with
  | zero =>
    intro h l hn H T R hl k
    refine bX11_putAi_25 (fun _ _ _ => ⟨fun _ => k h .rfl ?_, fun z => absurd (by decide) z⟩)
    rw [show aiF (aN i) 0 (max (du 0) 1) = [] from rfl, List.append_nil]
    exact R
  | succ n ih =>
    intro h l hn H T R hl k
    have t := T.2.2.1 i h0 h1
    have e1 : 0 < du (n + 1) ∧ max (du (n + 1)) 1 = du (n + 1) ∧ du (n + 1) / 10 = du n ∧ max (du (n + 1) / 10) 1 = max (du n) 1 := by
      rcases (show n = 0 ∨ n = 1 ∨ n = 2 ∨ n = 3 by omega) with e | e | e | e <;> subst e <;> decide
    have dv : 0 ≤ aN i / du (n + 1) := Int.ediv_nonneg a.2.2.1 (by omega)
    refine bX11_putAi_25 (fun _ _ _ => ⟨fun z => by omega, fun z => ⟨H.k, ?_⟩⟩)
    rw [H.r801, H.k801, H.n801, t.1]
    refine ⟨.refl _, h0, by omega, fun _ => ⟨a.2.2.1, by omega, dv, ⟨by omega, by omega⟩, ?_⟩⟩
    refine n_put (by omega) H R (by omega) (fun h1' f1 R1 => ⟨rfl, by omega, ?_⟩)
    rw [e1.2.2.1]
    refine ih h1' _ (by omega) (f1.sh H) (f1.tb T (by decide)) R1 (by rw [List.length_append]; simp; omega) (fun h' p R' => k h' (f1.trans p) ?_)
    rw [e1.2.1]
    unfold aiF
    rw [e1.2.2.2, ← List.singleton_append, ← List.append_assoc]
    exact R'
theorem n_putAi {e : Int} {x : jE} {l : List Int} (H : mSh h m) (T : mTb h m) (E : mEl h m e x) (R : mRow h m 833 20 3720 l) (hl : l.length + (aiStr x.1 x.2.1).length ≤ 3720) (k : ∀ h', mFr m [833] [20] h h' → mRow h' m 833 20 3720 (l ++ aiStr x.1 x.2.1) → Q (.inl none) h') : jCall (d + 1) mX11_putAi [jR m, jI (hA h (m + 12) e)] h Q := by
  have u := tabX E.1
  have t := E.tab T
  unfold aiStr at hl k
  rw [aiF_len] at hl
  generalize hi : hA h (m + 12) e = i at *
  have eN : aN i = x.1 := by rw [← E.2.2.1, hi] at u; exact u.2.2.1
  have st : ∀ (tn j : Int), 0 ≤ tn → tn ≤ 1000 → 0 ≤ j → j ≤ 4 → ((x.2.1 ≤ j → jWp (d + 1) mX11_putAi 25 [(0, jR m), (1, jI i), (2, jI tn)] [] h Q) ∧ (¬ (x.2.1 ≤ j) → jWp (d + 1) mX11_putAi 4 [(0, jR m), (1, jI i), (2, jI (tn * 10)), (3, jI (j + 1))] [] h Q)) → jWp (d + 1) mX11_putAi 4 [(0, jR m), (1, jI i), (2, jI tn), (3, jI j)] [] h Q := fun tn j t0 t1 j0 j1 kk => by
    refine bX11_putAi_4 (fun _ _ _ _ => ⟨H.k, ?_⟩)
    rw [H.r802, H.k802, H.n802, t.2.2.2.1]
    exact ⟨.refl _, t.1, by omega, fun _ => ⟨kk.1, fun z => ⟨⟨by omega, by omega⟩, ⟨by omega, by omega⟩, kk.2 z⟩⟩⟩
  have fin : ∀ n : Nat, (n : Int) = x.2.1 → (if x.2.1 = 4 then 1000 else if x.2.1 = 3 then 100 else 10 : Int) = max (du n) 1 → jWp (d + 1) mX11_putAi 25 [(0, jR m), (1, jI i), (2, jI (du n))] [] h Q := fun n en em => by
    refine n_putAi_25 t.1 t.2.1 n h l (by omega) H T R (by omega) (fun h' p R' => k h' p ?_)
    rw [em, show x.2.1.toNat = n by omega, ← eN]
    exact R'
  refine bX11_putAi (fun _ _ => st 1 1 (by decide) (by decide) (by decide) (by decide) ⟨fun z => by omega, fun z => st 10 2 (by decide) (by decide) (by decide) (by decide) ⟨fun z2 => fin 2 (by omega) ?_, fun z2 => st 100 3 (by decide) (by decide) (by decide) (by decide) ⟨fun z3 => fin 3 (by omega) ?_, fun z3 => st 1000 4 (by decide) (by decide) (by decide) (by decide) ⟨fun z4 => fin 4 (by omega) ?_, fun z4 => by omega⟩⟩⟩⟩)
  · rw [if_neg (by omega), if_neg (by omega)]; decide
  · rw [if_neg (by omega), if_pos (by omega)]; decide
  · rw [if_pos (by omega)]; decide
theorem n_writes_79 {br : Bool} {e to : Int} {x : jE} (he : 0 ≤ e ∧ e < 200) (hb : ∀ c ∈ x.2.2.1, 32 ≤ c ∧ c < 128) (n : Nat) : ∀ (i : Nat) (h : jH) (l : List Int), i + n = x.2.2.1.length → mSh h m → mEl h m e x → mRow h m 833 20 3720 l → l.length + (bsV br (x.2.2.1.drop i)).length ≤ 3720 → (∀ h', mFr m [833] [20] h h' → mRow h' m 833 20 3720 (l ++ bsV br (x.2.2.1.drop i)) → jWp (d + 1) mX11_writes 8 [(0, jR m), (1, jI 0), (2, jI to), (3, jI (b2i br)), (4, jI (e + 1))] [] h' Q) → jWp (d + 1) mX11_writes 79 [(0, jR m), (1, jI 0), (2, jI to), (3, jI (b2i br)), (4, jI e), (5, jI i)] [] h Q := by
  induction n with
  | zero =>
    intro i h l hi H E R hl k
    refine bX11_writes_79 (fun _ _ _ _ _ _ => ⟨H.k, ?_⟩)
    rw [H.r815, H.k815, H.n815, E.2.2.2.1]
    refine ⟨.refl _, by omega, by omega, fun _ => ⟨fun _ => ⟨⟨by omega, by omega⟩, k h .rfl ?_⟩, fun z => by omega⟩⟩
    rw [List.drop_of_length_le (by omega)]
    have : bsV br [] = [] := by cases br <;> rfl
    rw [this, List.append_nil]
    exact R
  | succ n ih =>
    intro i h l hi H E R hl k
    have l90 := E.2.1
    have m1 : x.2.2.1.getD i 0 ∈ x.2.2.1 := by
      rw [List.getD_eq_getElem?_getD, List.getElem?_eq_getElem (by omega)]
      exact List.getElem_mem _
    have c := hb _ m1
    have ed : x.2.2.1.drop i = x.2.2.1.getD i 0 :: x.2.2.1.drop (i + 1) := drop_getD (by omega)
    rw [ed] at hl k
    have v := E.2.2.2.2.1 i (by omega)
    generalize x.2.2.1.getD i 0 = c0 at *
    have next : ∀ (h1 : jH) (l1 : List Int), mFr m [833] [20] h h1 → mRow h1 m 833 20 3720 l1 → l1 ++ bsV br (x.2.2.1.drop (i + 1)) = l ++ bsV br (c0 :: x.2.2.1.drop (i + 1)) → jWp (d + 1) mX11_writes 79 [(0, jR m), (1, jI 0), (2, jI to), (3, jI (b2i br)), (4, jI e), (5, jI ((i : Int) + 1))] [] h1 Q := fun h1 l1 f1 R1 e1 => by
      refine ih (i + 1) h1 l1 (by omega) (f1.sh H) (E.to (f1.same (by decide) e)) R1 (by rw [← List.length_append, e1, List.length_append]; exact hl) (fun h' p R' => k h' (f1.trans p) ?_)
      rw [← e1]
      exact R'
    refine bX11_writes_79 (fun _ _ _ _ _ _ => ⟨H.k, ?_⟩)
    rw [H.r815, H.k815, H.n815, E.2.2.2.1, H.r817, H.k817, H.n817, v]
    refine ⟨.refl _, by omega, by omega, fun _ => ⟨fun z => by omega, fun z => ⟨⟨by omega, by omega⟩, ⟨by omega, by omega⟩, .refl _, by omega, by omega, fun _ => ⟨fun w => ?_, fun w => ⟨fun w2 => ?_, fun w2 => ?_⟩⟩⟩⟩⟩
    · have eb := (b2i_eq _).mp w
      have e0 : bsV br (c0 :: x.2.2.1.drop (i + 1)) = c0 :: bsV br (x.2.2.1.drop (i + 1)) := by rw [eb]; rfl
      rw [e0] at hl next
      simp only [List.length_cons] at hl
      refine n_put (by omega) H R (by omega) (fun h1 f1 R1 => ⟨rfl, ⟨by omega, by omega⟩, next h1 _ f1 R1 (by simp)⟩)
    · have eb := (b2i_ne _).mp w
      have e0 : bsV br (c0 :: x.2.2.1.drop (i + 1)) = c0 :: bsV br (x.2.2.1.drop (i + 1)) := by rw [eb]; unfold bsV; rw [if_pos rfl, if_pos rfl, escV_cons, if_neg w2]; rfl
      rw [e0] at hl next
      simp only [List.length_cons] at hl
      refine n_put (by omega) H R (by omega) (fun h1 f1 R1 => ⟨rfl, ⟨by omega, by omega⟩, next h1 _ f1 R1 (by simp)⟩)
    · have eb := (b2i_ne _).mp w
      have e0 : bsV br (c0 :: x.2.2.1.drop (i + 1)) = 92 :: c0 :: bsV br (x.2.2.1.drop (i + 1)) := by rw [eb]; unfold bsV; rw [if_pos rfl, if_pos rfl, escV_cons, if_pos w2]; rfl
      rw [e0] at hl next
      simp only [List.length_cons] at hl
      refine n_put (by decide) H R (by omega) (fun h1 f1 R1 => ⟨rfl, (f1.sh H).k, ?_⟩)
      exact n_put (by omega) (f1.sh H) R1 (by rw [List.length_append]; simp; omega) (fun h2 f2 R2 => ⟨rfl, ⟨by omega, by omega⟩, next h2 _ (f1.trans f2) R2 (by simp)⟩)
/-- an AI, what closes it, its value -/
theorem n_wr_ai {br : Bool} {k : Nat} {l : List Int} (hk : k < es.length) (hb : ∀ y ∈ es, ∀ c ∈ y.2.2.1, 32 ≤ c ∧ c < 128) (H : mSh h m) (T : mTb h m) (L : mLst h m 0 es) (R : mRow h m 833 20 3720 l) (hl : l.length + (aiStr (es.getD k dE).1 (es.getD k dE).2.1 ++ (clV br ++ bsV br (es.getD k dE).2.2.1)).length ≤ 3720) (kk : ∀ h', mFr m [833] [20] h h' → mRow h' m 833 20 3720 (l ++ (aiStr (es.getD k dE).1 (es.getD k dE).2.1 ++ (clV br ++ bsV br (es.getD k dE).2.2.1))) → jWp (d + 2) mX11_writes 8 [(0, jR m), (1, jI 0), (2, jI es.length), (3, jI (b2i br)), (4, jI ((k : Int) + 1))] [] h' Q) :
    hK h m = 9 ∧ hK h (hR h 814 m) = 10 ∧ 0 ≤ (k : Int) ∧ (k : Int) < hN h (hR h 814 m) ∧ (j32 (hA h (hR h 814 m) k) → jCall (d + 1) mX11_putAi [jR m, jI (hA h (hR h 814 m) k)] h (fun o h63 => o = .inl none ∧ ((b2i br = 0 → jWp (d + 2) mX11_writes 79 [(0, jR m), (1, jI 0), (2, jI es.length), (3, jI (b2i br)), (4, jI k), (5, jI 0)] [] h63 Q) ∧ (¬ (b2i br = 0) → hK h63 m = 9 ∧ jCall (d + 1) mX11_put [jR m, jI 41] h63 (fun o h73 => o = .inl none ∧ jWp (d + 2) mX11_writes 79 [(0, jR m), (1, jI 0), (2, jI es.length), (3, jI (b2i br)), (4, jI k), (5, jI 0)] [] h73 Q))))) := by
  have l20 := L.2.1
  have E := L.el (i := k) (by omega) (by omega)
  rw [Int.toNat_natCast] at E
  have by' := hb _ (getD_mem hk)
  generalize es.getD k dE = y at *
  rw [H.r814, H.k814, H.n814]
  simp only [List.length_append] at hl
  refine ⟨H.k, .refl _, by omega, by omega, fun _ => n_putAi H T E R (by omega) (fun h1 f1 R1 => ⟨rfl, fun w => ?_, fun w => ⟨(f1.sh H).k, ?_⟩⟩)⟩
  · have eb := (b2i_eq _).mp w
    refine n_writes_79 (br := br) (x := y) (by omega) by' y.2.2.1.length 0 h1 _ (by omega) (f1.sh H) (E.to (f1.same (by decide) k)) R1 ?_ (fun h' p R' => kk h' (f1.trans p) ?_)
    · rw [List.length_append, List.drop_zero]; omega
    · rw [List.drop_zero, List.append_assoc] at R'
      rw [show clV br = [] by rw [eb]; rfl, List.nil_append]
      exact R'
  · have eb := (b2i_ne _).mp w
    have cl : clV br = [41] := by rw [eb]; rfl
    rw [cl] at hl kk
    simp only [List.length_cons, List.length_nil] at hl
    refine n_put (by decide) (f1.sh H) R1 (by rw [List.length_append]; omega) (fun h2 f2 R2 => ⟨rfl, ?_⟩)
    have f12 := f1.trans f2
    refine n_writes_79 (br := br) (x := y) (by omega) by' y.2.2.1.length 0 h2 _ (by omega) (f12.sh H) (E.to (f12.same (by decide) k)) R2 ?_ (fun h' p R' => kk h' (f12.trans p) ?_)
    · rw [List.length_append, List.length_append, List.drop_zero]; simp only [List.length_cons, List.length_nil]; omega
    · rw [List.drop_zero, List.append_assoc, List.append_assoc] at R'
      exact R'
theorem n_writes_8 {br : Bool} (hb : ∀ y ∈ es, ∀ c ∈ y.2.2.1, 32 ≤ c ∧ c < 128) (n : Nat) : ∀ (k : Nat) (h : jH) (l : List Int), k + n = es.length → mSh h m → mTb h m → mLst h m 0 es → mRow h m 833 20 3720 l → l.length + (wrR es br n k).length ≤ 3720 → (∀ h', mFr m [833] [20] h h' → mRow h' m 833 20 3720 (l ++ wrR es br n k) → Q (.inl none) h') → jWp (d + 2) mX11_writes 8 [(0, jR m), (1, jI 0), (2, jI es.length), (3, jI (b2i br)), (4, jI k)] [] h Q := by
  induction n with
  | zero =>
    intro k h l hk H T L R hl kk
    refine bX11_writes_8 (fun _ _ _ _ _ => ⟨fun _ => kk h .rfl ?_, fun z => by omega⟩)
    have : wrR es br 0 k = [] := by
      unfold wrR
      rw [List.drop_of_length_le (by omega)]
      cases br <;> rfl
    rw [this, List.append_nil]
    exact R
  | succ n ih =>
    intro k h l hk H T L R hl kk
    have l20 := L.2.1
    have go := fun (h1 : jH) (l1 : List Int) (f1 : mFr m [833] [20] h h1) (R1 : mRow h1 m 833 20 3720 l1) (e1 : l1 ++ (aiStr (es.getD k dE).1 (es.getD k dE).2.1 ++ (clV br ++ bsV br (es.getD k dE).2.2.1)) ++ wrR es br n (k + 1) = l ++ wrR es br (n + 1) k) =>
      n_wr_ai (d := d) (Q := Q) (br := br) (k := k) (l := l1) (by omega) hb (f1.sh H) (f1.tb T (by decide)) (f1.lst L (by decide)) R1 (by have le := congrArg List.length e1; simp only [List.length_append] at le hl ⊢; omega) (fun h' p R' => ih (k + 1) h' _ (by omega) ((f1.trans p).sh H) ((f1.trans p).tb T (by decide)) ((f1.trans p).lst L (by decide)) R' (by rw [← List.length_append, e1, List.length_append]; exact hl) (fun h2 p2 R2 => kk h2 ((f1.trans p).trans p2) (by rw [← e1]; exact R2)))
    have eF : br = false → wrR es br (n + 1) k = (if sepB es 0 k = true then [29] else []) ++ (aiStr (es.getD k dE).1 (es.getD k dE).2.1 ++ (clV br ++ bsV br (es.getD k dE).2.2.1)) ++ wrR es br n (k + 1) := fun e => by
      subst e
      simp [wrR, strF, clV, bsV]
    have eT : br = true → wrR es br (n + 1) k = [40] ++ (aiStr (es.getD k dE).1 (es.getD k dE).2.1 ++ (clV br ++ bsV br (es.getD k dE).2.2.1)) ++ wrR es br n (k + 1) := fun e => by
      subst e
      have ed : es.drop k = es.getD k dE :: es.drop (k + 1) := dropE (by omega)
      simp [wrR, ed, brStr, clV, bsV]
    refine bX11_writes_8 (fun _ _ _ _ _ => ⟨fun z => by omega, fun z => ⟨fun w => ⟨fun w2 => ?_, fun w2 => ⟨H.k, ⟨by omega, by omega⟩, ?_⟩⟩, fun w => ⟨H.k, ?_⟩⟩⟩)
    · have sp : sepB es 0 k = false := by unfold sepB; rw [decide_eq_false (by omega)]; rfl
      refine go h l .rfl R ?_
      rw [eF ((b2i_eq _).mp w), sp]
      simp
    · have F := L.el (i := ((k - 1 : Nat) : Int)) (by omega) (by omega)
      rw [Int.toNat_natCast] at F
      have sp : sepB es 0 k = !fixE (es.getD (k - 1) dE) := by unfold sepB; rw [decide_eq_true (by omega)]; rfl
      rw [show (k : Int) - 1 = ((k - 1 : Nat) : Int) by omega, H.r814, H.k814, H.n814]
      refine ⟨.refl _, by omega, by omega, fun _ => n_fixE H T F ⟨_, rfl, fun v => ?_, fun v => ⟨H.k, ?_⟩⟩⟩
      · exact go h l .rfl R (by rw [eF ((b2i_eq _).mp w), sp, (b2i_ne _).mp v]; simp)
      · have e29 : wrR es br (n + 1) k = [29] ++ (aiStr (es.getD k dE).1 (es.getD k dE).2.1 ++ (clV br ++ bsV br (es.getD k dE).2.2.1)) ++ wrR es br n (k + 1) := by rw [eF ((b2i_eq _).mp w), sp, (b2i_eq _).mp v]; simp
        have hl2 := hl
        rw [e29] at hl2
        simp only [List.length_append, List.length_cons, List.length_nil] at hl2
        exact n_put (by decide) H R (by omega) (fun h1 f1 R1 => ⟨rfl, go h1 _ f1 R1 (by rw [e29]; simp)⟩)
    · have e40 := eT ((b2i_ne _).mp w)
      have hl2 := hl
      rw [e40] at hl2
      simp only [List.length_append, List.length_cons, List.length_nil] at hl2
      exact n_put (by decide) H R (by omega) (fun h1 f1 R1 => ⟨rfl, go h1 _ f1 R1 (by rw [e40]; simp)⟩)
theorem v_write {br : Bool} (hb : ∀ y ∈ s.2.1.1, ∀ c ∈ y.2.2.1, 32 ≤ c ∧ c < 128) (H : isMD h m s) (k : ∀ h', mFr m [812, 833] [20] h h' → isMD h' m ((s.1.1, writeV s.2.1.1 br, s.1.2.2), s.2) → Q (.inl (some (jI (writeV s.2.1.1 br).length))) h') : jCall (d + 3) mX11_write [jR m, jI (b2i br)] h Q := by
  have L := H.2.2.2.2.2.2.1.1
  have l20 := L.2.1
  have f1 : mFr m [812, 833] [20] h (sI (sI h 812 m 0) 833 m 0) := (mFr.rfl.sI (by decide)).sI (by decide)
  have R1 : mRow (sI (sI h 812 m 0) 833 m 0) m 833 20 3720 [] := ⟨by rw [hI_sI, if_pos ⟨.refl _, .refl _⟩]; rfl, by simp, fun i hi => absurd hi (by simp)⟩
  have ew : wrR s.2.1.1 br s.2.1.1.length 0 = writeV s.2.1.1 br := by
    unfold wrR writeV brF
    rw [List.drop_zero]
  have lw : (writeV s.2.1.1 br).length ≤ 3720 := by
    unfold writeV
    by_cases e : br = true
    · rw [if_pos e]
      have := brF_le s.2.1.1 (fun y hy => by
        obtain ⟨k, hk, e2⟩ := List.getElem_of_mem hy
        have E := L.2.2 k hk
        rw [List.getD_eq_getElem?_getD, List.getElem?_eq_getElem hk, Option.getD_some, e2] at E
        have u := tabX E.1
        exact ⟨by omega, by omega, E.2.1⟩)
      unfold brF
      omega
    · rw [if_neg e]
      have sl := strF_len (es := s.2.1.1) (f := 0) (fun k => by
        by_cases hk : k < s.2.1.1.length
        · have u := tabX (L.2.2 k hk).1
          omega
        · rw [getD_out hk]; decide) s.2.1.1.length 0
      have bs : ∀ n k : Nat, sumN (byV s.2.1.1 0) n k ≤ 95 * n := by
        intro n
        induction n with
        | zero => intro k; simp [sumN]
        | succ n ih =>
          intro k
          have := ih (k + 1)
          have := byV_le L 0 k
          simp only [sumN]
          omega
      have := bs s.2.1.1.length 0
      omega
  refine bX11_write (fun _ _ => ⟨H.1.k, ?_⟩)
  rw [H.1.r813, H.1.k813, H.1.n813, L.1]
  refine ⟨.refl _, by omega, by omega, fun _ => ?_⟩
  refine bX11_writes (fun _ _ _ _ => ⟨H.1.k, ?_⟩)
  refine n_writes_8 (br := br) hb s.2.1.1.length 0 _ [] (by omega) (f1.sh H.1) (f1.tb H.2.1 (by decide)) (f1.lst L (by decide)) R1 (by rw [ew]; simpa using lw) (fun h2 f2 R2 => ⟨rfl, ((f1.trans (f2.mono (by decide) (by decide))).sh H.1).k, ?_⟩)
  rw [ew, List.nil_append] at R2
  rw [R2.1]
  have ff : mFr m [812, 833] [20] h h2 := f1.trans (f2.mono (by decide) (by decide))
  exact fun _ => k h2 ff (md_out H ff (by decide) (by decide) R2)
end MV
