/-! THE MODEL: what elements want -/
theorem wr0 : wanV 0 0 = 1 ∧ wanV 0 1 = 1 ∧ wanV 0 2 = 0 ∧ wanV 0 3 = 2 ∧ wanV 0 4 = -1 ∧ wanV 0 5 = -1 ∧ wanV 0 6 = -1 := by decide +kernel
theorem mw0 (es : List jE) (f : Int) : metB es f 0 = (!(decide (1 ≤ f ∧ f ≤ 1)) || !(hasF es 2)) := by
  obtain ⟨h0, h1, h2, h3, h4, h5, h6⟩ := wr0
  simp [Bool.or_assoc, metB, wantOf, hasW, anyN, wntB, wantedV, h0, h1, h2, h3, h4, h5, h6]
theorem wr1 : wanV 1 0 = 2 ∧ wanV 1 1 = 2 ∧ wanV 1 2 = 1 ∧ wanV 1 3 = 37 ∧ wanV 1 4 = -1 ∧ wanV 1 5 = -1 ∧ wanV 1 6 = -1 := by decide +kernel
theorem mw1 (es : List jE) (f : Int) : metB es f 1 = (!(decide (2 ≤ f ∧ f ≤ 2)) || (hasF es 37)) := by
  obtain ⟨h0, h1, h2, h3, h4, h5, h6⟩ := wr1
  simp [Bool.or_assoc, metB, wantOf, hasW, anyN, wntB, wantedV, h0, h1, h2, h3, h4, h5, h6]
theorem wr2 : wanV 2 0 = 10 ∧ wanV 2 1 = 10 ∧ wanV 2 2 = 1 ∧ wanV 2 3 = 1 ∧ wanV 2 4 = 2 ∧ wanV 2 5 = 8006 ∧ wanV 2 6 = 8026 := by decide +kernel
theorem mw2 (es : List jE) (f : Int) : metB es f 2 = (!(decide (10 ≤ f ∧ f ≤ 10)) || (hasF es 1 || hasF es 2 || hasF es 8006 || hasF es 8026)) := by
  obtain ⟨h0, h1, h2, h3, h4, h5, h6⟩ := wr2
  simp [Bool.or_assoc, metB, wantOf, hasW, anyN, wntB, wantedV, h0, h1, h2, h3, h4, h5, h6]
theorem wr3 : wanV 3 0 = 11 ∧ wanV 3 1 = 11 ∧ wanV 3 2 = 1 ∧ wanV 3 3 = 1 ∧ wanV 3 4 = 2 ∧ wanV 3 5 = 8006 ∧ wanV 3 6 = 8026 := by decide +kernel
theorem mw3 (es : List jE) (f : Int) : metB es f 3 = (!(decide (11 ≤ f ∧ f ≤ 11)) || (hasF es 1 || hasF es 2 || hasF es 8006 || hasF es 8026)) := by
  obtain ⟨h0, h1, h2, h3, h4, h5, h6⟩ := wr3
  simp [Bool.or_assoc, metB, wantOf, hasW, anyN, wntB, wantedV, h0, h1, h2, h3, h4, h5, h6]
theorem wr4 : wanV 4 0 = 13 ∧ wanV 4 1 = 13 ∧ wanV 4 2 = 1 ∧ wanV 4 3 = 1 ∧ wanV 4 4 = 2 ∧ wanV 4 5 = 8006 ∧ wanV 4 6 = 8026 := by decide +kernel
theorem mw4 (es : List jE) (f : Int) : metB es f 4 = (!(decide (13 ≤ f ∧ f ≤ 13)) || (hasF es 1 || hasF es 2 || hasF es 8006 || hasF es 8026)) := by
  obtain ⟨h0, h1, h2, h3, h4, h5, h6⟩ := wr4
  simp [Bool.or_assoc, metB, wantOf, hasW, anyN, wntB, wantedV, h0, h1, h2, h3, h4, h5, h6]
theorem wr5 : wanV 5 0 = 15 ∧ wanV 5 1 = 17 ∧ wanV 5 2 = 1 ∧ wanV 5 3 = 1 ∧ wanV 5 4 = 2 ∧ wanV 5 5 = 8006 ∧ wanV 5 6 = 8026 := by decide +kernel
theorem mw5 (es : List jE) (f : Int) : metB es f 5 = (!(decide (15 ≤ f ∧ f ≤ 17)) || (hasF es 1 || hasF es 2 || hasF es 8006 || hasF es 8026)) := by
  obtain ⟨h0, h1, h2, h3, h4, h5, h6⟩ := wr5
  simp [Bool.or_assoc, metB, wantOf, hasW, anyN, wntB, wantedV, h0, h1, h2, h3, h4, h5, h6]
theorem wr6 : wanV 6 0 = 21 ∧ wanV 6 1 = 21 ∧ wanV 6 2 = 1 ∧ wanV 6 3 = 1 ∧ wanV 6 4 = 8006 ∧ wanV 6 5 = -1 ∧ wanV 6 6 = -1 := by decide +kernel
theorem mw6 (es : List jE) (f : Int) : metB es f 6 = (!(decide (21 ≤ f ∧ f ≤ 21)) || (hasF es 1 || hasF es 8006)) := by
  obtain ⟨h0, h1, h2, h3, h4, h5, h6⟩ := wr6
  simp [Bool.or_assoc, metB, wantOf, hasW, anyN, wntB, wantedV, h0, h1, h2, h3, h4, h5, h6]
theorem wr7 : wanV 7 0 = 37 ∧ wanV 7 1 = 37 ∧ wanV 7 2 = 1 ∧ wanV 7 3 = 2 ∧ wanV 7 4 = -1 ∧ wanV 7 5 = -1 ∧ wanV 7 6 = -1 := by decide +kernel
theorem mw7 (es : List jE) (f : Int) : metB es f 7 = (!(decide (37 ≤ f ∧ f ≤ 37)) || (hasF es 2)) := by
  obtain ⟨h0, h1, h2, h3, h4, h5, h6⟩ := wr7
  simp [Bool.or_assoc, metB, wantOf, hasW, anyN, wntB, wantedV, h0, h1, h2, h3, h4, h5, h6]
theorem wr8 : wanV 8 0 = 310 ∧ wanV 8 1 = 316 ∧ wanV 8 2 = 1 ∧ wanV 8 3 = 1 ∧ wanV 8 4 = 2 ∧ wanV 8 5 = -1 ∧ wanV 8 6 = -1 := by decide +kernel
theorem mw8 (es : List jE) (f : Int) : metB es f 8 = (!(decide (310 ≤ f ∧ f ≤ 316)) || (hasF es 1 || hasF es 2)) := by
  obtain ⟨h0, h1, h2, h3, h4, h5, h6⟩ := wr8
  simp [Bool.or_assoc, metB, wantOf, hasW, anyN, wntB, wantedV, h0, h1, h2, h3, h4, h5, h6]
theorem wr9 : wanV 9 0 = 390 ∧ wanV 9 1 = 391 ∧ wanV 9 2 = 1 ∧ wanV 9 3 = 255 ∧ wanV 9 4 = 8020 ∧ wanV 9 5 = -1 ∧ wanV 9 6 = -1 := by decide +kernel
theorem mw9 (es : List jE) (f : Int) : metB es f 9 = (!(decide (390 ≤ f ∧ f ≤ 391)) || (hasF es 255 || hasF es 8020)) := by
  obtain ⟨h0, h1, h2, h3, h4, h5, h6⟩ := wr9
  simp [Bool.or_assoc, metB, wantOf, hasW, anyN, wntB, wantedV, h0, h1, h2, h3, h4, h5, h6]
theorem wr10 : wanV 10 0 = 392 ∧ wanV 10 1 = 393 ∧ wanV 10 2 = 1 ∧ wanV 10 3 = 1 ∧ wanV 10 4 = -1 ∧ wanV 10 5 = -1 ∧ wanV 10 6 = -1 := by decide +kernel
theorem mw10 (es : List jE) (f : Int) : metB es f 10 = (!(decide (392 ≤ f ∧ f ≤ 393)) || (hasF es 1)) := by
  obtain ⟨h0, h1, h2, h3, h4, h5, h6⟩ := wr10
  simp [Bool.or_assoc, metB, wantOf, hasW, anyN, wntB, wantedV, h0, h1, h2, h3, h4, h5, h6]
theorem wr11 : wanV 11 0 = 420 ∧ wanV 11 1 = 420 ∧ wanV 11 2 = 0 ∧ wanV 11 3 = 421 ∧ wanV 11 4 = -1 ∧ wanV 11 5 = -1 ∧ wanV 11 6 = -1 := by decide +kernel
theorem mw11 (es : List jE) (f : Int) : metB es f 11 = (!(decide (420 ≤ f ∧ f ≤ 420)) || !(hasF es 421)) := by
  obtain ⟨h0, h1, h2, h3, h4, h5, h6⟩ := wr11
  simp [Bool.or_assoc, metB, wantOf, hasW, anyN, wntB, wantedV, h0, h1, h2, h3, h4, h5, h6]
theorem wr12 : wanV 12 0 = 8018 ∧ wanV 12 1 = 8018 ∧ wanV 12 2 = 0 ∧ wanV 12 3 = 8017 ∧ wanV 12 4 = -1 ∧ wanV 12 5 = -1 ∧ wanV 12 6 = -1 := by decide +kernel
theorem mw12 (es : List jE) (f : Int) : metB es f 12 = (!(decide (8018 ≤ f ∧ f ≤ 8018)) || !(hasF es 8017)) := by
  obtain ⟨h0, h1, h2, h3, h4, h5, h6⟩ := wr12
  simp [Bool.or_assoc, metB, wantOf, hasW, anyN, wntB, wantedV, h0, h1, h2, h3, h4, h5, h6]
/-- what an element of a list wants, told by its AI -/
def wntsV (es : List jE) (pt : Bool) (f : Int) : Bool :=
  if pt = true then (if 310 ≤ f ∧ f ≤ 316 then hasF es 1 || hasF es 2 else if f = 392 ∨ f = 393 then hasF es 1 else if f = 390 ∨ f = 391 then hasF es 255 || hasF es 8020 else true)
  else if f = 2 then hasF es 37 else if f = 37 then hasF es 2 else if f = 1 then !hasF es 2
  else if f = 10 ∨ f = 11 ∨ f = 13 ∨ (15 ≤ f ∧ f ≤ 17) then (hasF es 1 || hasF es 2) || (hasF es 8006 || hasF es 8026)
  else if f = 21 then hasF es 1 || hasF es 8006 else if f = 420 then !hasF es 421 else if f = 8018 then !hasF es 8017 else true
theorem dB {p : Prop} [Decidable p] (h : ¬ p) : decide p = false := decide_eq_false h
theorem wants_eq (es : List jE) {pt : Bool} {f : Int} (h1 : pt = true → 310 ≤ f ∧ f ≤ 395) (h2 : pt = false → f < 310 ∨ 395 < f) : allN (metB es f) 13 0 = wntsV es pt f := by
  simp only [allN, Nat.reduceAdd, Nat.zero_add]
  simp only [mw0, mw1, mw2, mw3, mw4, mw5, mw6, mw7, mw8, mw9, mw10, mw11, mw12]
  unfold wntsV
  cases pt
  · have r := h2 rfl
    rw [if_neg (by decide)]
    rw [dB (p := 310 ≤ f ∧ f ≤ 316) (by omega), dB (p := 390 ≤ f ∧ f ≤ 391) (by omega), dB (p := 392 ≤ f ∧ f ≤ 393) (by omega)]
    clear h1 h2 r
    by_cases e2 : f = 2
    · subst e2; simp [Bool.or_assoc]
    by_cases e37 : f = 37
    · subst e37; simp [Bool.or_assoc]
    by_cases e1 : f = 1
    · subst e1; simp [Bool.or_assoc]
    by_cases e10 : f = 10
    · subst e10; simp [Bool.or_assoc]
    by_cases e11 : f = 11
    · subst e11; simp [Bool.or_assoc]
    by_cases e13 : f = 13
    · subst e13; simp [Bool.or_assoc]
    by_cases e15 : f = 15
    · subst e15; simp [Bool.or_assoc]
    by_cases e16 : f = 16
    · subst e16; simp [Bool.or_assoc]
    by_cases e17 : f = 17
    · subst e17; simp [Bool.or_assoc]
    by_cases e21 : f = 21
    · subst e21; simp [Bool.or_assoc]
    by_cases e420 : f = 420
    · subst e420; simp [Bool.or_assoc]
    by_cases e8018 : f = 8018
    · subst e8018; simp [Bool.or_assoc]
    rw [dB (p := 1 ≤ f ∧ f ≤ 1) (by omega), dB (p := 2 ≤ f ∧ f ≤ 2) (by omega), dB (p := 10 ≤ f ∧ f ≤ 10) (by omega), dB (p := 11 ≤ f ∧ f ≤ 11) (by omega), dB (p := 13 ≤ f ∧ f ≤ 13) (by omega), dB (p := 15 ≤ f ∧ f ≤ 17) (by omega), dB (p := 21 ≤ f ∧ f ≤ 21) (by omega), dB (p := 37 ≤ f ∧ f ≤ 37) (by omega), dB (p := 420 ≤ f ∧ f ≤ 420) (by omega), dB (p := 8018 ≤ f ∧ f ≤ 8018) (by omega)]
    rw [if_neg e2, if_neg e37, if_neg e1, if_neg (by omega), if_neg e21, if_neg e420, if_neg e8018]
    rfl
  · have r := h1 rfl
    rw [if_pos rfl]
    rw [dB (p := 1 ≤ f ∧ f ≤ 1) (by omega), dB (p := 2 ≤ f ∧ f ≤ 2) (by omega), dB (p := 10 ≤ f ∧ f ≤ 10) (by omega), dB (p := 11 ≤ f ∧ f ≤ 11) (by omega), dB (p := 13 ≤ f ∧ f ≤ 13) (by omega), dB (p := 15 ≤ f ∧ f ≤ 17) (by omega), dB (p := 21 ≤ f ∧ f ≤ 21) (by omega), dB (p := 37 ≤ f ∧ f ≤ 37) (by omega), dB (p := 420 ≤ f ∧ f ≤ 420) (by omega), dB (p := 8018 ≤ f ∧ f ≤ 8018) (by omega)]
    clear h1 h2
    by_cases e1 : 310 ≤ f ∧ f ≤ 316
    · rw [if_pos e1, decide_eq_true e1, dB (p := 390 ≤ f ∧ f ≤ 391) (by omega), dB (p := 392 ≤ f ∧ f ≤ 393) (by omega)]
      simp
    rw [if_neg e1, dB e1]
    by_cases e2 : f = 392 ∨ f = 393
    · rw [if_pos e2, dB (p := 390 ≤ f ∧ f ≤ 391) (by omega), decide_eq_true (p := 392 ≤ f ∧ f ≤ 393) (by omega)]
      simp
    rw [if_neg e2, dB (p := 392 ≤ f ∧ f ≤ 393) (by omega)]
    by_cases e3 : f = 390 ∨ f = 391
    · rw [if_pos e3, decide_eq_true (p := 390 ≤ f ∧ f ≤ 391) (by omega)]
      simp
    rw [if_neg e3, dB (p := 390 ≤ f ∧ f ≤ 391) (by omega)]
    simp
theorem hasN_F {es : List jE} (ok : okL es) {n dg : Int} (hn : (n < 310 ∨ 395 < n) ∧ (n < 3100 ∨ 3959 < n)) (hd : dg = (if n < 100 then 2 else if n < 1000 then 3 else 4)) : hasN es n dg = hasF es n := by
  induction es with
  | nil => rfl
  | cons x t ih =>
    have h1 := ok x (List.mem_cons_self)
    have e : decide (x.1 = n ∧ x.2.1 = dg) = decide (famE x = n) := by
      rw [hd]
      exact decide_eq_decide.mpr (fam_n h1 hn).symm
    unfold hasN hasF at *
    rw [List.any_cons, List.any_cons, e, ih (fun y hy => ok y (List.mem_cons_of_mem _ hy))]
theorem metW_eq {es : List jE} {k : Nat} (hk : k < es.length) (h1 : lineV (es.getD k dE).1 (es.getD k dE).2.1 ≠ -1) : metW es k = wntsV es (hasPt (lineV (es.getD k dE).1 (es.getD k dE).2.1)) (famE (es.getD k dE)) := by
  have t := tabK h1
  unfold metW
  rw [decide_eq_false (by omega), Bool.false_or, Int.toNat_natCast]
  refine wants_eq es (fun z => ?_) (fun z => ?_)
  · unfold famE famV
    rw [if_pos z]
    exact t.1 z
  · unfold famE famV
    rw [if_neg (by rw [z]; decide)]
    exact (t.2 z).1
section MW
variable {d m : Nat} {h : jH} {Q : jO → jH → Prop}
theorem n_wants {a e : Int} {es : List jE} {x : jE} (H : mSh h m) (T : mTb h m) (L : mLst h m a es) (ha : 0 ≤ a ∧ a < 10) (E : mEl h m e x) (k : Q (.inl (some (jI (b2i (wntsV es (hasPt (lineV x.1 x.2.1)) (famE x)))))) h) : jCall (d + 2) mX11_wants [jR m, jI a, jI (hA h (m + 12) e)] h Q := by
  have t := E.tab T
  have u := tabX E.1
  have ok := L.ok
  have kt := tabK E.1
  have f1 := fun w => hasN_F (n := 1) (dg := 2) ok (by decide) w
  have f2 := fun w => hasN_F (n := 2) (dg := 2) ok (by decide) w
  have f37 := fun w => hasN_F (n := 37) (dg := 2) ok (by decide) w
  have f255 := fun w => hasN_F (n := 255) (dg := 3) ok (by decide) w
  have f421 := fun w => hasN_F (n := 421) (dg := 3) ok (by decide) w
  have f8006 := fun w => hasN_F (n := 8006) (dg := 4) ok (by decide) w
  have f8026 := fun w => hasN_F (n := 8026) (dg := 4) ok (by decide) w
  have f8017 := fun w => hasN_F (n := 8017) (dg := 4) ok (by decide) w
  have f8020 := fun w => hasN_F (n := 8020) (dg := 4) ok (by decide) w
  have hs : ∀ {n dg : Int} {Q : jO → jH → Prop}, Q (.inl (some (jI (b2i (hasN es n dg))))) h → jCall (d + 1) mX11_has [jR m, jI a, jI n, jI dg] h Q := fun kk => n_has H T L ha kk
  refine bX11_wants (fun _ _ _ => ⟨H.k, ?_⟩)
  rw [H.r801, H.k801, H.n801, H.r803, H.k803, H.n803, t.2.2.1, t.2.2.2.2.1]
  unfold ptV
  refine ⟨.refl _, t.1, by omega, fun _ => ⟨.refl _, by omega, fun _ => ⟨fun z => ?_, fun z => ⟨u.2.2.2.2.1, ?_⟩⟩⟩⟩
  · have p : hasPt (lineV x.1 x.2.1) = false := by
      cases q : hasPt (lineV x.1 x.2.1)
      · rfl
      · rw [q] at z; simp at z; omega
    have fe : famE x = x.1 := by unfold famE famV; rw [p]; simp
    rw [p, fe] at k
    unfold wntsV at k
    rw [if_neg (by decide)] at k
    have k195 : (x.1 = 10 ∨ x.1 = 11 ∨ x.1 = 13 ∨ (15 ≤ x.1 ∧ x.1 ≤ 17)) → jWp (d + 2) mX11_wants 195 [(0, jR m), (1, jI a)] [] h Q := fun y => by
      rw [if_neg (by omega), if_neg (by omega), if_neg (by omega), if_pos y, ← f1 rfl, ← f2 rfl, ← f8006 rfl, ← f8026 rfl] at k
      refine bX11_wants_195 (fun _ _ => ⟨H.k, n_isItem H T L ha ⟨_, rfl, fun w => ?_, fun w => ⟨H.k, n_isPiece H T L ha ⟨_, rfl, fun w2 => ?_, fun w2 => ?_⟩⟩⟩⟩)
      · rw [(b2i_ne _).mp w] at k
        exact bX11_wants_211 (fun _ => bX11_wants_216 (fun _ => ⟨by decide, k⟩))
      · rw [(b2i_eq _).mp w, (b2i_eq _).mp w2] at k
        exact bX11_wants_216 (fun _ => ⟨by decide, k⟩)
      · rw [(b2i_eq _).mp w, (b2i_ne _).mp w2] at k
        exact bX11_wants_211 (fun _ => bX11_wants_216 (fun _ => ⟨by decide, k⟩))
    have k217 : ¬ (x.1 = 10 ∨ x.1 = 11 ∨ x.1 = 13 ∨ (15 ≤ x.1 ∧ x.1 ≤ 17)) → x.1 ≠ 1 → x.1 ≠ 2 → x.1 ≠ 37 → jWp (d + 2) mX11_wants 217 [(0, jR m), (1, jI a), (3, jI x.1)] [] h Q := fun y y1 y2 y3 => by
      rw [if_neg y2, if_neg y3, if_neg y1, if_neg y] at k
      refine bX11_wants_217 (fun _ _ _ => ⟨fun w => ⟨fun w2 => ⟨fun w3 => ?_, fun w3 => ⟨H.k, hs ⟨_, rfl, fun v => ?_, fun v => ?_⟩⟩⟩, fun w2 => ⟨H.k, hs ⟨_, rfl, fun v => ?_, fun v => ?_⟩⟩⟩, fun w => ⟨H.k, hs ⟨_, rfl, fun v => ?_, fun v => ⟨H.k, hs ⟨_, rfl, fun v2 => ?_, fun v2 => ?_⟩⟩⟩⟩⟩)
      · rw [if_neg w, if_neg w2, if_neg w3] at k; exact k
      · rw [if_neg w, if_neg w2, if_pos w3, ← f8017 rfl, (b2i_ne _).mp v] at k
        exact bX11_wants_300 (fun _ => ⟨by decide, k⟩)
      · rw [if_neg w, if_neg w2, if_pos w3, ← f8017 rfl, (b2i_eq _).mp v] at k
        exact bX11_wants_300 (fun _ => ⟨by decide, k⟩)
      · rw [if_neg w, if_pos w2, ← f421 rfl, (b2i_ne _).mp v] at k
        exact bX11_wants_275 (fun _ => ⟨by decide, k⟩)
      · rw [if_neg w, if_pos w2, ← f421 rfl, (b2i_eq _).mp v] at k
        exact bX11_wants_275 (fun _ => ⟨by decide, k⟩)
      · rw [if_pos w, ← f1 rfl, (b2i_ne _).mp v] at k
        exact bX11_wants_245 (fun _ => bX11_wants_250 (fun _ => ⟨by decide, k⟩))
      · rw [if_pos w, ← f1 rfl, ← f8006 rfl, (b2i_eq _).mp v, (b2i_eq _).mp v2] at k
        exact bX11_wants_250 (fun _ => ⟨by decide, k⟩)
      · rw [if_pos w, ← f1 rfl, ← f8006 rfl, (b2i_eq _).mp v, (b2i_ne _).mp v2] at k
        exact bX11_wants_245 (fun _ => bX11_wants_250 (fun _ => ⟨by decide, k⟩))
    refine ⟨fun w2 => ⟨fun w37 => ⟨fun w1 => ⟨fun w => k195 (by omega), fun v10 => ⟨fun w => k195 (by omega), fun v11 => ⟨fun w => k195 (by omega), fun v13 => ⟨fun w => k217 (by omega) w1 w2 w37, fun v15 => ⟨fun w => k217 (by omega) w1 w2 w37, fun w => k195 (by omega)⟩⟩⟩⟩⟩, fun w1 => hs ⟨_, rfl, fun v => ?_, fun v => ?_⟩⟩, fun w37 => hs ⟨_, rfl, b2i_rg _, ?_⟩⟩, fun w2 => hs ⟨_, rfl, b2i_rg _, ?_⟩⟩
    · rw [if_neg w2, if_neg w37, if_pos w1, ← f2 rfl, (b2i_ne _).mp v] at k
      exact bX11_wants_164 (fun _ => ⟨by decide, k⟩)
    · rw [if_neg w2, if_neg w37, if_pos w1, ← f2 rfl, (b2i_eq _).mp v] at k
      exact bX11_wants_164 (fun _ => ⟨by decide, k⟩)
    · rw [if_neg w2, if_pos w37, ← f2 rfl] at k; exact k
    · rw [if_pos w2, ← f37 rfl] at k; exact k
  · have p : hasPt (lineV x.1 x.2.1) = true := by
      cases q : hasPt (lineV x.1 x.2.1)
      · rw [q] at z; simp at z
      · rfl
    have fe : famE x = x.1 / 10 := by unfold famE famV; rw [p]; simp
    rw [p, fe] at k
    unfold wntsV at k
    rw [if_pos rfl] at k
    have k44 : ¬ (310 ≤ x.1 / 10 ∧ x.1 / 10 ≤ 316) → jWp (d + 2) mX11_wants 44 [(0, jR m), (1, jI a), (4, jI (x.1 / 10))] [] h Q := fun y => by
      rw [if_neg y] at k
      have k60 : (x.1 / 10 = 392 ∨ x.1 / 10 = 393) → jWp (d + 2) mX11_wants 60 [(0, jR m), (1, jI a)] [] h Q := fun w => by
        rw [if_pos w, ← f1 rfl] at k
        exact bX11_wants_60 (fun _ _ => ⟨H.k, hs ⟨_, rfl, b2i_rg _, k⟩⟩)
      have k84 : (x.1 / 10 = 390 ∨ x.1 / 10 = 391) → jWp (d + 2) mX11_wants 84 [(0, jR m), (1, jI a)] [] h Q := fun w => by
        rw [if_neg (by omega), if_pos w, ← f255 rfl, ← f8020 rfl] at k
        refine bX11_wants_84 (fun _ _ => ⟨H.k, hs ⟨_, rfl, fun v => ?_, fun v => ⟨H.k, hs ⟨_, rfl, fun v2 => ?_, fun v2 => ?_⟩⟩⟩⟩)
        · rw [(b2i_ne _).mp v] at k
          exact bX11_wants_108 (fun _ => bX11_wants_113 (fun _ => ⟨by decide, k⟩))
        · rw [(b2i_eq _).mp v, (b2i_eq _).mp v2] at k
          exact bX11_wants_113 (fun _ => ⟨by decide, k⟩)
        · rw [(b2i_eq _).mp v, (b2i_ne _).mp v2] at k
          exact bX11_wants_108 (fun _ => bX11_wants_113 (fun _ => ⟨by decide, k⟩))
      refine bX11_wants_44 (fun _ _ _ => ⟨fun w => k60 (Or.inl w), fun w => ⟨fun w2 => ⟨fun w3 => k84 (Or.inl w3), fun w3 => ⟨fun w4 => ?_, fun w4 => k84 (Or.inr w4)⟩⟩, fun w2 => k60 (Or.inr w2)⟩⟩)
      rw [if_neg (by omega), if_neg (by omega)] at k
      exact k
    refine ⟨fun w => k44 (by omega), fun w => ⟨fun w2 => k44 (by omega), fun w2 => n_isItem H T L ha ⟨_, rfl, b2i_rg _, ?_⟩⟩⟩
    rw [if_pos (by omega), ← f1 rfl, ← f2 rfl] at k
    exact k
/-- whether an element ahead has the kin -/
theorem idxE_first (p : jE → Bool) (es : List jE) : ∀ (n i : Nat), i + n = es.length → idxE p (es.drop i) i = -1 ∨ ∃ j : Nat, i ≤ j ∧ j < es.length ∧ idxE p (es.drop i) i = j ∧ p (es.getD j dE) = true ∧ ∀ l : Nat, i ≤ l → l < j → p (es.getD l dE) = false
  | 0, i => fun hi => by
    rw [List.drop_eq_nil_of_le (by omega)]
    exact Or.inl rfl
  | n + 1, i => fun hi => by
    rw [dropE (by omega)]
    unfold idxE
    by_cases z : p (es.getD i dE) = true
    · rw [if_pos z]
      exact Or.inr ⟨i, Nat.le_refl _, by omega, rfl, z, fun l h1 h2 => absurd h2 (by omega)⟩
    · rw [if_neg z]
      rcases idxE_first p es n (i + 1) (by omega) with e | ⟨j, h1, h2, h3, h4, h5⟩
      · exact Or.inl e
      · refine Or.inr ⟨j, by omega, h2, h3, h4, fun l l1 l2 => ?_⟩
        by_cases e : l = i
        · rw [e]; exact Bool.eq_false_iff.mpr z
        · exact h5 l (by omega) l2
def twcB (es : List jE) (k : Nat) : Nat → Nat → Bool := anyN (fun j => decide (famE (es.getD j dE) = famE (es.getD k dE)))
theorem anyN_iff (p : Nat → Bool) : ∀ n i, anyN p n i = true ↔ ∃ j, i ≤ j ∧ j < i + n ∧ p j = true
  | 0, i => by simp [anyN]; omega
  | n + 1, i => by
    unfold anyN
    rw [Bool.or_eq_true, anyN_iff p n (i + 1)]
    constructor
    · rintro (e | ⟨j, h1, h2, h3⟩)
      · exact ⟨i, Nat.le_refl _, by omega, e⟩
      · exact ⟨j, by omega, by omega, h3⟩
    · rintro ⟨j, h1, h2, h3⟩
      by_cases e : j = i
      · subst e; exact Or.inl h3
      · exact Or.inr ⟨j, by omega, by omega, h3⟩
theorem repB_eq {es : List jE} {k : Nat} (hk : k < es.length) : repB es k = twcB es k k 0 := by
  have f := idxE_first (fun x => decide (famE x = famE (es.getD k dE))) es es.length 0 (by omega)
  rw [List.drop_zero] at f
  unfold repB twcB
  rw [Int.toNat_natCast]
  rw [Bool.eq_iff_iff, decide_eq_true_iff, anyN_iff]
  constructor
  · rintro ⟨h1, h2, h3⟩
    rcases f with e | ⟨j, f1, f2, f3, f4, f5⟩
    · rw [idxE_any] at e
      rw [List.any_eq_false] at e
      exact absurd (decide_eq_true (.refl (famE (es.getD k dE)))) (e _ (getD_mem hk))
    · by_cases g : j < k
      · exact ⟨j, f1, by omega, f4⟩
      · by_cases g2 : j = k
        · rw [f3, g2] at h3
          exact absurd rfl h3
        · have := f5 k (Nat.zero_le _) (by omega)
          simp at this
  · rintro ⟨j, h1, h2, h3⟩
    refine ⟨by omega, by omega, fun e => ?_⟩
    rcases f with e2 | ⟨j2, f1, f2, f3, f4, f5⟩
    · omega
    · have : j2 = k := by omega
      have w := f5 j (Nat.zero_le _) (by omega)
      rw [w] at h3
      exact absurd h3 (by decide)
theorem n_isTwice_loop {a : Int} {es : List jE} {k : Nat} (H : mSh h m) (T : mTb h m) (L : mLst h m a es) (ha : 0 ≤ a ∧ a < 10) (hk : k < es.length) (c : Nat) : ∀ j : Nat, j + c = k → Q (.inl (some (jI (b2i (twcB es k c j))))) h → jWp (d + 1) mX11_isTwice 2 [(0, jR m), (1, jI a), (2, jI k), (3, jI j)] [] h Q := by
  have l20 := L.2.1
  induction c with
  | zero =>
    intro j hj kk
    exact bX11_isTwice_2 (fun _ _ _ _ => ⟨fun _ => kk, fun z => by omega⟩)
  | succ c ih =>
    intro j hj kk
    have E := L.2.2 j (by omega)
    have F := L.2.2 k hk
    unfold twcB anyN at kk
    refine bX11_isTwice_2 (fun _ _ _ _ => ⟨fun z => by omega, fun z => ⟨H.k, ?_⟩⟩)
    rw [H.r814, H.k814, H.n814]
    refine ⟨⟨by omega, by omega⟩, ⟨by omega, by omega⟩, .refl _, by omega, by omega, fun _ => n_kin H T E ⟨_, rfl, H.k, ?_⟩⟩
    rw [H.r814, H.k814, H.n814]
    refine ⟨⟨by omega, by omega⟩, ⟨by omega, by omega⟩, .refl _, by omega, by omega, fun _ => n_kin H T F ⟨_, rfl, fun w => ⟨⟨by omega, by omega⟩, ?_⟩, fun w => ?_⟩⟩
    · have y : ¬ famE (es.getD j dE) = famE (es.getD k dE) := fun y => w ((kin_fam E.1 F.1).mpr y)
      rw [decide_eq_false y, Bool.false_or] at kk
      exact ih (j + 1) (by omega) kk
    · have y : famE (es.getD j dE) = famE (es.getD k dE) := (kin_fam E.1 F.1).mp w
      rw [decide_eq_true y, Bool.true_or] at kk
      exact kk
theorem n_isTwice {a : Int} {es : List jE} {k : Nat} (H : mSh h m) (T : mTb h m) (L : mLst h m a es) (ha : 0 ≤ a ∧ a < 10) (hk : k < es.length) (kk : Q (.inl (some (jI (b2i (repB es k))))) h) : jCall (d + 1) mX11_isTwice [jR m, jI a, jI k] h Q := by
  rw [repB_eq hk] at kk
  exact bX11_isTwice (fun _ _ _ => n_isTwice_loop H T L ha hk k 0 (by omega) kk)
end MW
