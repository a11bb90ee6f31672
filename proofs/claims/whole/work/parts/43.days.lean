/-! THE CALENDAR; ELEMENTS -/
section D3
variable {d : Nat} {h : jH} {Q : jO → jH → Prop}
def yearV (two clk : Int) : Int := (clk - 49) + (two - (clk - 49)) % 100
theorem s3_yearMeant {t c : Int} (h1 : -1 ≤ t) (h2 : t < 100) (h3 : 0 ≤ c) (h4 : c < 10000) (k : Q (.inl (some (jI (yearV t c)))) h) : jCall (d + 1) mX3_yearMeant [jI t, jI c] h Q :=
  bX3_yearMeant (fun _ _ _ => ⟨⟨by omega, by omega⟩, ⟨by omega, by omega⟩, s9_floorMod (by decide) ⟨_, rfl, ⟨by omega, by omega⟩, k⟩⟩)
def leapB (y : Int) : Bool := decide (y % 4 = 0 ∧ (y % 100 ≠ 0 ∨ y % 400 = 0))
def lastV (y m : Int) : Int := if m = 2 then (if leapB y = true then 29 else 28) else if m = 4 ∨ m = 6 ∨ m = 9 ∨ m = 11 then 30 else 31
theorem s3_lastDay {y m : Int} (hy : 0 ≤ y) (k : Q (.inl (some (jI (lastV y m)))) h) : jCall d mX3_lastDay [jI y, jI m] h Q := by
  have k' : ∀ v, v = lastV y m → Q (.inl (some (jI v))) h := fun v e => e ▸ k
  have g : ∀ v : Int, (m = 2 → v = if leapB y = true then 29 else 28) → ((m = 2 → Q (.inl (some (jI v))) h) ∧ (m = 4 → Q (.inl (some (jI 30))) h) ∧ (m = 6 → Q (.inl (some (jI 30))) h) ∧ (m = 9 → Q (.inl (some (jI 30))) h) ∧ (m = 11 → Q (.inl (some (jI 30))) h) ∧ (m ≠ 2 → m ≠ 4 → m ≠ 6 → m ≠ 9 → m ≠ 11 → Q (.inl (some (jI 31))) h)) := by
    intro v hv
    refine ⟨fun z => k' _ ?_, fun z => k' _ ?_, fun z => k' _ ?_, fun z => k' _ ?_, fun z => k' _ ?_, fun _ _ _ _ _ => k' _ ?_⟩
    · rw [hv z]; unfold lastV; rw [if_pos z]
    · unfold lastV; rw [if_neg (by omega), if_pos (by omega)]
    · unfold lastV; rw [if_neg (by omega), if_pos (by omega)]
    · unfold lastV; rw [if_neg (by omega), if_pos (by omega)]
    · unfold lastV; rw [if_neg (by omega), if_pos (by omega)]
    · unfold lastV; rw [if_neg (by omega), if_neg (by omega)]
  have L : ∀ p : Prop, p → (p ↔ (y % 4 = 0 ∧ (y % 100 ≠ 0 ∨ y % 400 = 0))) → leapB y = true := fun p hp e => decide_eq_true (e.mp hp)
  have N : ¬ (y % 4 = 0 ∧ (y % 100 ≠ 0 ∨ y % 400 = 0)) → leapB y = false := fun z => decide_eq_false z
  refine bX3_lastDay (fun _ _ _ => ⟨hy, fun z => g _ (fun _ => ?_), fun z => ⟨fun z2 => g _ (fun _ => ?_), fun z2 => ⟨fun z3 => g _ (fun _ => ?_), fun z3 => g _ (fun _ => ?_)⟩⟩⟩)
  · rw [N (by omega)]; rfl
  · rw [L _ z2 (by omega)]; rfl
  · rw [N (by omega)]; rfl
  · rw [L _ z3 (by omega)]; rfl
def dateB (y m dd : Int) : Bool := decide (1 ≤ m ∧ m ≤ 12 ∧ 0 ≤ dd ∧ dd ≤ lastV y m)
theorem s3_isDate {y m dd : Int} (hy : 0 ≤ y) (k : Q (.inl (some (jI (b2i (dateB y m dd))))) h) : jCall (d + 1) mX3_isDate [jI y, jI m, jI dd] h Q := by
  have no : ¬ (1 ≤ m ∧ m ≤ 12 ∧ 0 ≤ dd ∧ dd ≤ lastV y m) → Q (.inl (some (jI 0))) h := fun z => by
    unfold dateB at k
    rw [decide_eq_false z] at k
    exact k
  refine bX3_isDate (fun _ _ _ _ => ⟨fun z => no (by omega), fun z => ⟨fun z2 => no (by omega), fun z2 => ⟨fun z3 => no (by omega), fun z3 => s3_lastDay hy ⟨_, rfl, fun z4 => no (by omega), fun z4 => ?_⟩⟩⟩⟩)
  unfold dateB at k
  rw [decide_eq_true (by omega)] at k
  exact k
def timeB (a b : Int) : Bool := decide (0 ≤ a ∧ a ≤ 23 ∧ 0 ≤ b ∧ b ≤ 59)
theorem s3_isTime {a b : Int} (k : Q (.inl (some (jI (b2i (timeB a b))))) h) : jCall d mX3_isTime [jI a, jI b] h Q := by
  have no : ¬ (0 ≤ a ∧ a ≤ 23 ∧ 0 ≤ b ∧ b ≤ 59) → Q (.inl (some (jI 0))) h := fun z => by
    unfold timeB at k
    rw [decide_eq_false z] at k
    exact k
  refine bX3_isTime (fun _ _ _ => ⟨fun z => no (by omega), fun z => ⟨fun z2 => no (by omega), fun z2 => ⟨fun z3 => no (by omega), fun z3 => ⟨fun z4 => no (by omega), fun z4 => ?_⟩⟩⟩⟩)
  unfold timeB at k
  rw [decide_eq_true (by omega)] at k
  exact k
end D3
/-- an element: AI, digits, value, the clock's year at its reading -/
abbrev jE : Type := Int × Int × List Int × Int
def famV (a dg : Int) : Int := if hasPt (lineV a dg) = true then a / 10 else a
/-- an element's shape alone -/
def shEl (h : jH) (e : Nat) : Prop := hK h e = 3 ∧ hR h 200 e = e + 1 ∧ ∃ l, isRow h (e + 1) 90 l
def isEl (h : jH) (e : Nat) (x : jE) : Prop := hK h e = 3 ∧ hR h 200 e = e + 1 ∧ isRow h (e + 1) 90 x.2.2.1 ∧ hI h 201 e = x.1 ∧ hI h 202 e = x.2.1 ∧ hI h 203 e = lineV x.1 x.2.1 ∧ hI h 204 e = famV x.1 x.2.1 ∧ hI h 205 e = x.2.2.2 ∧ 0 ≤ x.1 ∧ x.1 < 10000 ∧ 2 ≤ x.2.1 ∧ x.2.1 ≤ 4
theorem isEl.sh {h : jH} {e : Nat} {x : jE} (H : isEl h e x) : shEl h e := ⟨H.1, H.2.1, _, H.2.2.1⟩
theorem jFI.el {a b : Nat} {h h1 : jH} (p : jFI a b h h1) {e : Nat} {x : jE} (q : isEl h e x) (hd : e + 3 ≤ a ∨ b ≤ e) : isEl h1 e x := by
  obtain ⟨q1, q2, q3, q4, q5, q6, q7, q8, q9⟩ := q
  have r := p.row q3 (by omega)
  obtain ⟨p1, p2, p3, p4, p5, p6, p7⟩ := p
  have w := (p7 e (by omega)).1
  exact ⟨by rw [p3]; exact q1, by rw [p1]; exact q2, r, by rw [w]; exact q4, by rw [w]; exact q5, by rw [w]; exact q6, by rw [w]; exact q7, by rw [w]; exact q8, q9⟩
theorem jFI.sh {a b : Nat} {h h1 : jH} (p : jFI a b h h1) {e : Nat} (q : shEl h e) (hd : e + 3 ≤ a ∨ b ≤ e) : shEl h1 e := by
  obtain ⟨q1, q2, l, q3⟩ := q
  have r := p.row q3 (by omega)
  obtain ⟨p1, p2, p3, p4, p5, p6, p7⟩ := p
  exact ⟨by rw [p3]; exact q1, by rw [p1]; exact q2, l, r⟩
theorem jFI_I (h : jH) (f o : Nat) (v : Int) : jFI o (o + 1) h (sI h f o v) := ⟨.refl _, .refl _, .refl _, .refl _, .refl _, .refl _, fun p hp => ⟨fun g => by rw [hI_sI, if_neg (by omega)], fun i => .refl _⟩⟩
section E4
variable {d : Nat} {h : jH} {Q : jO → jH → Prop} {e : Nat} {x : jE}
theorem s4_ai (H : isEl h e x) (k : Q (.inl (some (jI x.1))) h) : jCall d mX4_ai [jR e] h Q := bX4_ai (fun _ => ⟨H.1, fun _ => by rw [H.2.2.2.1]; exact k⟩)
theorem s4_digits (H : isEl h e x) (k : Q (.inl (some (jI x.2.1))) h) : jCall d mX4_digits [jR e] h Q := bX4_digits (fun _ => ⟨H.1, fun _ => by rw [H.2.2.2.2.1]; exact k⟩)
theorem s4_line (H : isEl h e x) (k : Q (.inl (some (jI (lineV x.1 x.2.1)))) h) : jCall d mX4_line [jR e] h Q := bX4_line (fun _ => ⟨H.1, fun _ => by rw [H.2.2.2.2.2.1]; exact k⟩)
theorem s4_family (H : isEl h e x) (k : Q (.inl (some (jI (famV x.1 x.2.1)))) h) : jCall d mX4_family [jR e] h Q := bX4_family (fun _ => ⟨H.1, fun _ => by rw [H.2.2.2.2.2.2.1]; exact k⟩)
theorem s4_clockYear (H : isEl h e x) (k : Q (.inl (some (jI x.2.2.2))) h) : jCall d mX4_clockYear [jR e] h Q := bX4_clockYear (fun _ => ⟨H.1, fun _ => by rw [H.2.2.2.2.2.2.2.1]; exact k⟩)
theorem s4_value (H : shEl h e) (k : Q (.inl (some (jR (e + 1)))) h) : jCall d mX4_value [jR e] h Q := bX4_value (fun _ => ⟨H.1, by rw [H.2.1]; exact k⟩)
def ptV (x : jE) : Int := if hasPt (lineV x.1 x.2.1) = true then x.1 % 10 else -1
theorem s4_point (H : isEl h e x) (k : Q (.inl (some (jI (ptV x)))) h) : jCall (d + 2) mX4_point [jR e] h Q := by
  have lr := lineV_rg x.1 x.2.1
  unfold ptV at k
  refine bX4_point (fun _ => ⟨H.1, fun _ => ?_⟩)
  rw [H.2.2.2.2.2.1]
  refine s8_hasPoint (by omega) (by omega) ⟨_, rfl, fun z => ?_, fun z => ⟨H.1, fun _ => ?_⟩⟩
  · rw [if_neg (by rw [(b2i_eq _).mp z]; decide)] at k; exact k
  · rw [if_pos ((b2i_ne _).mp z)] at k
    rw [H.2.2.2.1]
    exact ⟨H.2.2.2.2.2.2.2.2.1, k⟩
theorem s4_isFixed (H : isEl h e x) (k : Q (.inl (some (jI (b2i (fixV x.1 x.2.1))))) h) : jCall (d + 1) mX4_isFixed [jR e] h Q := by
  refine bX4_isFixed (fun _ => ⟨H.1, fun _ => fun _ => ?_⟩)
  rw [H.2.2.2.1, H.2.2.2.2.1]
  exact s8_isFixed H.2.2.2.2.2.2.2.2.1 ⟨_, rfl, b2i_rg _, k⟩
theorem s4_begin {a dg ln c : Int} (H : shEl h e) (hl : ln = lineV a dg) (ha : 0 ≤ a ∧ a < 10000) (hd : 2 ≤ dg ∧ dg ≤ 4) (k : ∀ h', jFI e (e + 3) h h' → isEl h' e (a, dg, [], c) → Q (.inl none) h') : jCall (d + 2) mX4_begin [jR e, jI a, jI dg, jI ln, jI c] h Q := by
  obtain ⟨q1, q2, l, q3⟩ := H
  have lr := lineV_rg a dg
  have fin : ∀ f : Int, f = famV a dg → jCall (d + 1) mX7_clear [jR (e + 1)] (sI (sI (sI (sI (sI h 201 e a) 202 e dg) 203 e ln) 204 e f) 205 e c) (fun o h' => o = .inl none ∧ Q (.inl none) h') := fun f hf => by
    have f5 : jFI e (e + 1) h (sI (sI (sI (sI (sI h 201 e a) 202 e dg) 203 e ln) 204 e f) 205 e c) := ((((jFI_I h 201 e a).trans (jFI_I _ 202 e dg)).trans (jFI_I _ 203 e ln)).trans (jFI_I _ 204 e f)).trans (jFI_I _ 205 e c)
    refine s7_clear (f5.row q3 (by omega)) (fun h' g1 g2 => ⟨rfl, k h' ((f5.mono (by omega) (by omega)).trans (g1.mono (by omega) (by omega))) ?_⟩)
    obtain ⟨p1, p2, p3, p4, p5, p6, p7⟩ := g1
    have w := (p7 e (by omega)).1
    refine ⟨by rw [p3]; exact q1, by rw [p1]; exact q2, g2, ?_, ?_, ?_, ?_, ?_, ha.1, ha.2, hd.1, hd.2⟩
    · rw [w]; simp [hI_sI]
    · rw [w]; simp [hI_sI]
    · rw [w]; simp [hI_sI, hl]
    · rw [w]; simp [hI_sI, hf]
    · rw [w]; simp [hI_sI]
  refine bX4_begin (fun _ _ _ _ _ => ⟨q1, ?_⟩)
  rw [hl]
  refine s8_hasPoint (by omega) (by omega) ⟨_, rfl, fun z => ⟨q1, ?_⟩, fun z => ⟨ha.1, q1, ?_⟩⟩
  · rw [show hR (sI (sI (sI h 201 e a) 202 e dg) 203 e (lineV a dg)) 200 e = e + 1 from q2]
    refine ⟨q3.1, ?_⟩
    rw [← hl]
    exact fin a (by unfold famV; rw [if_neg (by rw [(b2i_eq _).mp z]; decide)])
  · rw [show hR (sI (sI (sI h 201 e a) 202 e dg) 203 e (lineV a dg)) 200 e = e + 1 from q2]
    refine ⟨q3.1, ?_⟩
    rw [← hl]
    exact fin (a / 10) (by unfold famV; rw [if_pos ((b2i_ne _).mp z)])
theorem s4_isSameAs {e2 : Nat} {x2 : jE} (H : isEl h e x) (H2 : isEl h e2 x2) (k : Q (.inl (some (jI (b2i (decide (x.1 = x2.1 ∧ x.2.1 = x2.2.1 ∧ x.2.2.1 = x2.2.2.1)))))) h) : jCall (d + 1) mX4_isSameAs [jR e, jR e2] h Q := by
  have no : ¬ (x.1 = x2.1 ∧ x.2.1 = x2.2.1 ∧ x.2.2.1 = x2.2.2.1) → Q (.inl (some (jI 0))) h := fun z => by
    rw [decide_eq_false z] at k
    exact k
  refine bX4_isSameAs (fun _ => ⟨H.1, fun _ => ⟨H2.1, fun _ => ?_⟩⟩)
  rw [H.2.2.2.1, H.2.2.2.2.1, H2.2.2.2.1, H2.2.2.2.2.1, H.2.1, H2.2.1]
  refine ⟨fun z => no (fun q => z q.1), fun z => fun _ _ => ⟨fun z2 => no (fun q => z2 q.2.1), fun z2 => ⟨H.2.2.1.1, s7_isSameAs H.2.2.1 H2.2.2.1 ⟨_, rfl, fun z3 => no (fun q => ?_), fun z3 => ?_⟩⟩⟩⟩
  · exact of_decide_eq_false ((b2i_eq _).mp z3) q.2.2
  · rw [decide_eq_true ⟨z, z2, of_decide_eq_true ((b2i_ne _).mp z3)⟩] at k
    exact k
theorem s4_copyFrom {e2 : Nat} (H : shEl h e) (H2 : isEl h e2 x) (hd : e2 + 3 ≤ e ∨ e + 3 ≤ e2) (k : ∀ h', jFI e (e + 3) h h' → isEl h' e x → Q (.inl none) h') : jCall (d + 2) mX4_copyFrom [jR e, jR e2] h Q := by
  obtain ⟨q1, q2, l, q3⟩ := H
  obtain ⟨r1, r2, r3, r4, r5, r6, r7, r8, r9⟩ := id H2
  have ne : ∀ (g : jH) (f : Nat) (v : Int) (f' : Nat), hI (sI g f e v) f' e2 = hI g f' e2 := fun g f v f' => by rw [hI_sI, if_neg (by omega)]
  refine bX4_copyFrom (fun _ => ⟨r1, fun _ => ⟨q1, ?_⟩⟩)
  simp only [ne, r4, r5, r6, r7, r8, q2, r2]
  have f5 : jFI e (e + 1) h (sI (sI (sI (sI (sI h 201 e x.1) 202 e x.2.1) 203 e (lineV x.1 x.2.1)) 204 e (famV x.1 x.2.1)) 205 e x.2.2.2) := ((((jFI_I h 201 e _).trans (jFI_I _ 202 e _)).trans (jFI_I _ 203 e _)).trans (jFI_I _ 204 e _)).trans (jFI_I _ 205 e _)
  refine fun _ _ _ _ => ⟨q3.1, s7_copyFrom (f5.row q3 (by omega)) (f5.row r3 (by omega)) (by omega) (fun h' g1 g2 => ⟨rfl, k h' ((f5.mono (by omega) (by omega)).trans (g1.mono (by omega) (by omega))) ?_⟩)⟩
  obtain ⟨p1, p2, p3, p4, p5, p6, p7⟩ := g1
  have w := (p7 e (by omega)).1
  rw [List.take_of_length_le r3.2.2.2.2.2.1] at g2
  refine ⟨by rw [p3]; exact q1, by rw [p1]; exact q2, g2, ?_, ?_, ?_, ?_, ?_, r9⟩
  · rw [w]; simp [hI_sI]
  · rw [w]; simp [hI_sI]
  · rw [w]; simp [hI_sI]
  · rw [w]; simp [hI_sI]
  · rw [w]; simp [hI_sI]
end E4
