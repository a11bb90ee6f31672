/-! THE ENCODER -/
/-- how many characters a string takes at least, in B and in C -/
def costs : List Int → Int × Int
  | [] => (0, 0)
  | [x] => (min 1 ((if x = 29 then 1 else 1000000) + 1), min (if x = 29 then 1 else 1000000) 2)
  | x :: y :: u => (min (1 + (costs (y :: u)).1) ((if x = 29 then 1 + (costs (y :: u)).2 else if (isD x && isD y) = true then 1 + (costs u).2 else 1000000) + 1), min (if x = 29 then 1 + (costs (y :: u)).2 else if (isD x && isD y) = true then 1 + (costs u).2 else 1000000) (1 + (costs (y :: u)).1 + 1))
theorem costs_rg : ∀ l : List Int, 0 ≤ (costs l).1 ∧ (costs l).1 ≤ l.length ∧ 0 ≤ (costs l).2 ∧ (costs l).2 ≤ l.length + 1
  | [] => by simp [costs]
  | [x] => by simp only [costs, List.length_cons, List.length_nil]; split <;> omega
  | x :: y :: u => by
    have a := costs_rg (y :: u)
    have b := costs_rg u
    simp only [costs, List.length_cons] at *
    split
    · omega
    · split <;> omega
/-- how many bytes from i on a character of C tells -/
def bicV (s : List Int) (i : Nat) : Nat := if lAt s i = 29 then 1 else if digB s i 2 = true then 2 else 0
def strBV (s : List Int) (i : Nat) : Int := 1 + (costs (s.drop (i + 1))).1
def strCV (s : List Int) (i : Nat) : Int := if bicV s i = 0 then 1000000 else 1 + (costs (s.drop (i + bicV s i))).2
theorem digB2 {s : List Int} {i : Nat} (h : i + 2 ≤ s.length) : digB s i 2 = (isD (s.getD i 0) && isD (s.getD (i + 1) 0)) := by
  unfold digB
  rw [decide_eq_true (by omega), Bool.true_and, Int.toNat_natCast, show (2 : Int).toNat = 2 from rfl, seg_cons (by omega), seg_cons (by omega), seg_zero]
  simp
theorem digB2n {s : List Int} {i : Nat} (h : s.length < i + 2) : digB s i 2 = false := by
  unfold digB
  rw [decide_eq_false (by omega), Bool.false_and]
theorem lAt_get {s : List Int} {i : Nat} (h : i < s.length) : lAt s i = s.getD i 0 := by
  unfold lAt
  rw [if_pos (by omega), Int.toNat_natCast]
theorem costs_at {s : List Int} {i : Nat} (h : i < s.length) : costs (s.drop i) = (min (strBV s i) (strCV s i + 1), min (strCV s i) (strBV s i + 1)) := by
  rw [drop_getD h]
  unfold strBV strCV bicV
  rw [lAt_get h]
  by_cases h2 : i + 1 < s.length
  · rw [digB2 (by omega), drop_getD h2]
    simp only [costs]
    by_cases e : s.getD i 0 = 29
    · simp only [e, if_true, if_pos, Nat.one_ne_zero, if_false]
      rw [← drop_getD h2]
    · by_cases e2 : (isD (s.getD i 0) && isD (s.getD (i + 1) 0)) = true
      · simp only [e, e2, if_false, if_true]
        rfl
      · simp only [e, e2, if_false, if_true]
        rfl
  · rw [digB2n (by omega), List.drop_eq_nil_of_le (show s.length ≤ i + 1 by omega)]
    by_cases e : s.getD i 0 = 29
    · simp only [e, if_true, Nat.one_ne_zero, if_false]
      rw [List.drop_eq_nil_of_le (show s.length ≤ i + 1 by omega)]
      simp [costs]
    · simp only [costs, e, if_false, if_true, Int.add_zero, Bool.false_eq_true]
      rfl
def chrV (s : List Int) (i : Nat) (c : Bool) : Int := if lAt s i = 29 then 102 else if c = true then twoAt s i else lAt s i - 32
/-- a change is due ahead of byte i -/
def chgV (s : List Int) (i : Nat) (c : Bool) : Bool :=
  if c = true then (if strCV s i = strBV s i + 1 then decide (100 < chrV s i true) else decide (strBV s i + 1 < strCV s i))
  else (if strBV s i = strCV s i + 1 then decide (99 < chrV s i false) else decide (strCV s i + 1 < strBV s i))
def encF (s : List Int) : Nat → Nat → Bool → List Int
  | 0, _, _ => []
  | n + 1, i, c => if s.length ≤ i then [] else if chgV s i c = true then (if c = true then 100 else 99) :: encF s n i (!c) else chrV s i c :: encF s n (i + (if c = true then bicV s i else 1)) c
theorem encF_len (s : List Int) : ∀ n i c, (encF s n i c).length ≤ n
  | 0, _, _ => by simp [encF]
  | n + 1, i, c => by
    unfold encF
    split
    · simp
    · split
      · have := encF_len s n i (!c)
        simp only [List.length_cons]
        omega
      · have := encF_len s n (i + (if c = true then bicV s i else 1)) c
        simp only [List.length_cons]
        omega
def isEnc (h : jH) (N q : Nat) : Prop := hK h N = 4 ∧ hR h 300 N = N + 1 ∧ hR h 301 N = N + 2 ∧ hK h (N + 1) = 10 ∧ hK h (N + 2) = 10 ∧ hN h (N + 1) = 50 ∧ hN h (N + 2) = 50 ∧ hR h 302 N = q
/-- the costs from i on stand in their rows -/
def encC (h : jH) (N : Nat) (s : List Int) (i : Nat) : Prop := ∀ j, i ≤ j → j ≤ s.length → hA h (N + 1) (j : Int) = (costs (s.drop j)).1 ∧ hA h (N + 2) (j : Int) = (costs (s.drop j)).2
theorem jFr.enc {a b : Nat} {h h1 : jH} (p : jFr a b h h1) {N q : Nat} (H : isEnc h N q) (hd : N + 3 ≤ a ∨ b ≤ N) : isEnc h1 N q := by
  obtain ⟨p3, p4, p5, p6, p7⟩ := p
  obtain ⟨q1, q2, q3, q4, q5, q6, q7, q8⟩ := H
  have w := fun f => ((p7 N (by omega)).1 f).2
  exact ⟨by rw [p3]; exact q1, by rw [w]; exact q2, by rw [w]; exact q3, by rw [p3]; exact q4, by rw [p3]; exact q5, by rw [p4]; exact q6, by rw [p4]; exact q7, by rw [w]; exact q8⟩
theorem jFr.encC {a b : Nat} {h h1 : jH} (p : jFr a b h h1) {N i : Nat} {s : List Int} (H : encC h N s i) (hd : N + 3 ≤ a ∨ b ≤ N) : encC h1 N s i := fun j h1' h2 => by
  rw [((p.2.2.2.2 (N + 1) (by omega)).2 j).1, ((p.2.2.2.2 (N + 2) (by omega)).2 j).1]
  exact H j h1' h2
section N5
variable {d : Nat} {h : jH} {Q : jO → jH → Prop} {N q cap : Nat} {s : List Int}
theorem s5_bytesInC {i : Nat} (H : isEnc h N q) (R : isRow h q cap s) (k : Q (.inl (some (jI (bicV s i)))) h) : jCall (d + 1) mX5_bytesInC [jR N, jI i] h Q := by
  unfold bicV at k
  refine bX5_bytesInC (fun _ _ => ⟨H.1, ?_⟩)
  rw [H.2.2.2.2.2.2.2]
  refine ⟨R.1, s7_at R ⟨_, rfl, fun z => ⟨H.1, ?_⟩, fun z => ?_⟩⟩
  · rw [if_neg z] at k
    rw [H.2.2.2.2.2.2.2]
    refine ⟨R.1, s7_areDigits R ⟨_, rfl, fun y => ?_, fun y => ?_⟩⟩
    · rw [(b2i_eq _).mp y] at k; exact k
    · rw [(b2i_ne _).mp y] at k; exact k
  · rw [if_pos z] at k
    exact k
theorem s5_costAt {i : Nat} {c : Bool} (hs : s.length ≤ 48) (H : isEnc h N q) (R : isRow h q cap s) (C : encC h N s i) (hi : i ≤ s.length) (k : Q (.inl (some (jI (if c = true then (costs (s.drop i)).2 else (costs (s.drop i)).1)))) h) : jCall (d + 1) mX5_costAt [jR N, jI i, jI (b2i c)] h Q := by
  obtain ⟨q1, q2, q3, q4, q5, q6, q7, q8⟩ := H
  have cc := C i (Nat.le_refl _) hi
  refine bX5_costAt (fun _ _ _ => ⟨fun z => by omega, fun z => ⟨q1, ?_⟩⟩)
  rw [q8]
  refine ⟨R.1, s7_count R ⟨_, rfl, fun z2 => by omega, fun z2 => ⟨q1, ?_⟩⟩⟩
  rw [q2, q3, q6, q7, cc.1, cc.2]
  refine ⟨q4, fun _ => ⟨fun z3 => ⟨fun z4 => ⟨by omega, by omega, fun _ => ?_⟩, fun z4 => ⟨q5, by omega, by omega, fun _ => ?_⟩⟩, fun z3 => by omega⟩⟩
  · rw [(b2i_eq _).mp z4] at k; exact k
  · rw [(b2i_ne _).mp z4] at k; exact k
theorem bicV_rg (s : List Int) (i : Nat) : bicV s i ≤ 2 ∧ (i < s.length → i + bicV s i ≤ s.length) := by
  unfold bicV
  split
  · omega
  · split
    · rename_i hd
      unfold digB at hd
      rw [Bool.and_eq_true, decide_eq_true_eq] at hd
      omega
    · omega
theorem s5_straightCost {i : Nat} {c : Bool} (hs : s.length ≤ 48) (H : isEnc h N q) (R : isRow h q cap s) (C : encC h N s (i + 1)) (hi : i < s.length) (k : Q (.inl (some (jI (if c = true then strCV s i else strBV s i)))) h) : jCall (d + 2) mX5_straightCost [jR N, jI i, jI (b2i c)] h Q := by
  have br := bicV_rg s i
  have r1 := costs_rg (s.drop (i + 1))
  have r2 := costs_rg (s.drop (i + bicV s i))
  simp only [List.length_drop] at r1 r2
  refine bX5_straightCost (fun _ _ _ => ⟨fun z => ⟨H.1, s5_bytesInC H R ⟨_, rfl, fun z2 => ⟨⟨by omega, by omega⟩, H.1, ?_⟩, fun z2 => ?_⟩⟩, fun z => ⟨⟨by omega, by omega⟩, H.1, ?_⟩⟩)
  · have := s5_costAt (d := d) (Q := fun o h36 => ∃ v36, o = .inl (some (jI v36)) ∧ j32 (1 + v36) ∧ Q (.inl (some (jI (1 + v36)))) h36) (i := i + bicV s i) (c := true) hs H R (fun j h1 h2 => C j (by omega) h2) (by omega) ⟨_, rfl, ⟨by simp only [if_true]; omega, by simp only [if_true]; omega⟩, ?_⟩
    · rw [Int.natCast_add] at this
      exact this
    · rw [if_pos ((b2i_ne _).mp z)] at k
      unfold strCV at k
      rw [if_neg (by omega)] at k
      exact k
  · rw [if_pos ((b2i_ne _).mp z)] at k
    unfold strCV at k
    rw [if_pos (by omega)] at k
    exact k
  · refine s5_costAt (i := i + 1) (c := false) hs H R C (by omega) ⟨_, rfl, ⟨by simp; omega, by simp; omega⟩, ?_⟩
    rw [if_neg (by rw [(b2i_eq _).mp z]; decide)] at k
    exact k
theorem s5_straightCharacter {i : Nat} {c : Bool} (hb : ∀ x ∈ s, 0 ≤ x ∧ x < 256) (hi : i < s.length) (H : isEnc h N q) (R : isRow h q cap s) (k : Q (.inl (some (jI (chrV s i c)))) h) : jCall (d + 2) mX5_straightCharacter [jR N, jI i, jI (b2i c)] h Q := by
  unfold chrV at k
  have rb : 0 ≤ lAt s i ∧ lAt s i < 256 := by
    rw [lAt_get hi, List.getD_eq_getElem?_getD, List.getElem?_eq_getElem hi]
    exact hb _ (List.getElem_mem _)
  refine bX5_straightCharacter (fun ok _ _ => ⟨H.1, ?_⟩)
  have c31 := R.cap31 ok
  have rl := R.2.2.2.2.2.1
  rw [H.2.2.2.2.2.2.2]
  refine ⟨R.1, s7_at R ⟨_, rfl, fun z => ⟨fun y => ⟨H.1, ?_⟩, fun y => ⟨H.1, ?_⟩⟩, fun z => ?_⟩⟩
  · rw [if_neg z, if_neg (by rw [(b2i_eq _).mp y]; decide)] at k
    rw [H.2.2.2.2.2.2.2]
    exact ⟨R.1, s7_at R ⟨_, rfl, ⟨by omega, by omega⟩, k⟩⟩
  · rw [if_neg z, if_pos ((b2i_ne _).mp y)] at k
    rw [H.2.2.2.2.2.2.2]
    exact ⟨R.1, s7_twoDigits (by omega) R ⟨_, rfl, k⟩⟩
  · rw [if_pos z] at k
    exact k
theorem s5_isChangeBest {i : Nat} {c : Bool} (hs : s.length ≤ 48) (hb : ∀ x ∈ s, 0 ≤ x ∧ x < 256) (hi : i < s.length) (H : isEnc h N q) (R : isRow h q cap s) (C : encC h N s (i + 1)) (k : Q (.inl (some (jI (b2i (chgV s i c))))) h) : jCall (d + 3) mX5_isChangeBest [jR N, jI i, jI (b2i c)] h Q := by
  have br := bicV_rg s i
  have r1 := costs_rg (s.drop (i + 1))
  have r2 := costs_rg (s.drop (i + bicV s i))
  simp only [List.length_drop] at r1 r2
  have b1 : 0 ≤ strBV s i ∧ strBV s i ≤ 100 := by unfold strBV; omega
  have b2 : 0 ≤ strCV s i ∧ strCV s i ≤ 1000000 := by unfold strCV; split <;> omega
  have fin : ∀ b : Bool, chgV s i c = b → jWp (d + 3) mX5_isChangeBest 68 [] [jI (b2i b)] h Q := fun b e => bX5_isChangeBest_68 (fun _ => ⟨b2i_rg b, by rw [← e]; exact k⟩)
  have fin' : ∀ b : Bool, chgV s i c = b → Q (.inl (some (jI (b2i b)))) h := fun b e => by rw [← e]; exact k
  cases c with
  | true =>
    refine bX5_isChangeBest (fun _ _ _ => ⟨H.1, s5_straightCost (c := true) hs H R C hi ⟨_, rfl, fun _ => ⟨H.1, s5_straightCost (c := false) hs H R C hi ⟨_, rfl, ⟨?_, ?_⟩, fun z => ⟨fun z2 => absurd z2 (by decide), fun z2 => ⟨H.1, s5_straightCharacter (c := true) hb hi H R ⟨_, rfl, fun y => fin false ?_, fun y => fin true ?_⟩⟩⟩, fun z => ⟨fun y => fin' false ?_, fun y => fin' true ?_⟩⟩⟩, fun z => absurd z (by decide)⟩⟩)
    · simp; omega
    · simp; omega
    · simp at z; unfold chgV; rw [if_pos rfl, if_pos z, decide_eq_false (by omega)]
    · simp at z; unfold chgV; rw [if_pos rfl, if_pos z, decide_eq_true (by omega)]
    · simp at z y; unfold chgV; rw [if_pos rfl, if_neg z, decide_eq_false (by omega)]
    · simp at z y; unfold chgV; rw [if_pos rfl, if_neg z, decide_eq_true (by omega)]
  | false =>
    refine bX5_isChangeBest (fun _ _ _ => ⟨H.1, s5_straightCost (c := false) hs H R C hi ⟨_, rfl, fun z => absurd rfl z, fun _ => ⟨H.1, s5_straightCost (c := true) hs H R C hi ⟨_, rfl, ⟨?_, ?_⟩, fun z => ⟨fun z2 => ⟨H.1, s5_straightCharacter (c := false) hb hi H R ⟨_, rfl, fun y => fin false ?_, fun y => fin true ?_⟩⟩, fun z2 => absurd rfl z2⟩, fun z => ⟨fun y => fin' false ?_, fun y => fin' true ?_⟩⟩⟩⟩⟩)
    · simp; omega
    · simp; omega
    · simp at z; unfold chgV; rw [if_neg (by decide), if_pos z, decide_eq_false (by omega)]
    · simp at z; unfold chgV; rw [if_neg (by decide), if_pos z, decide_eq_true (by omega)]
    · simp at z y; unfold chgV; rw [if_neg (by decide), if_neg z, decide_eq_false (by omega)]
    · simp at z y; unfold chgV; rw [if_neg (by decide), if_neg z, decide_eq_true (by omega)]
theorem s5_cb_loop (hq : q + 2 ≤ N ∨ N + 3 ≤ q) (hs : s.length ≤ 48) (n : Nat) : ∀ h : jH, n ≤ s.length → isEnc h N q → isRow h q cap s → encC h N s n → (∀ h', jFr N (N + 3) h h' → isEnc h' N q → encC h' N s 0 → Q (.inl none) h') → jWp (d + 3) mX5_countBackwards 31 [(0, jR N), (2, jI ((n : Int) - 1))] [] h Q := by
  induction n with
  | zero =>
    intro h hn H R C k
    exact bX5_countBackwards_31 (fun _ _ => ⟨fun _ => k h .rfl H C, fun z => by omega⟩)
  | succ n ih =>
    intro h hn H R C k
    have br := bicV_rg s n
    have r1 := costs_rg (s.drop (n + 1))
    have r2 := costs_rg (s.drop (n + bicV s n))
    simp only [List.length_drop] at r1 r2
    have b1 : 0 ≤ strBV s n ∧ strBV s n ≤ 100 := by unfold strBV; omega
    have b2 : 0 ≤ strCV s n ∧ strCV s n ≤ 1000000 := by unfold strCV; split <;> omega
    rw [show (((n + 1 : Nat) : Int) - 1) = n by omega]
    refine bX5_countBackwards_31 (fun _ _ => ⟨fun z => by omega, fun z => ⟨H.1, s5_straightCost (c := false) hs H R C (by omega) ⟨_, rfl, H.1, s5_straightCost (c := true) hs H R C (by omega) ⟨_, rfl, H.1, ?_⟩⟩⟩⟩)
    simp only [Bool.false_eq_true, if_true, if_false]
    refine ⟨⟨by omega, by omega⟩, s9_min ⟨_, rfl, ?_⟩⟩
    obtain ⟨q1, q2, q3, q4, q5, q6, q7, q8⟩ := H
    rw [q2, q6]
    refine ⟨q4, by omega, by omega, q1, ⟨by omega, by omega⟩, s9_min ⟨_, rfl, ?_⟩⟩
    rw [q3]
    refine ⟨q5, by omega, (show (n : Int) < hN h (N + 2) by rw [q7]; omega), ⟨by omega, by omega⟩, ?_⟩
    rw [show ((n : Int) + (-1)) = (n : Int) - 1 by omega]
    have fr : jFr N (N + 3) h (sA (sA h (N + 1) n (min (strBV s n) (strCV s n + 1))) (N + 2) n (min (strCV s n) (strBV s n + 1))) := ⟨.refl _, .refl _, .refl _, .refl _, fun o ho => ⟨fun f => ⟨.refl _, .refl _⟩, fun i => ⟨by rw [hA_sA, hA_sA, if_neg (by omega), if_neg (by omega)], .refl _⟩⟩⟩
    have H' : isEnc (sA (sA h (N + 1) n (min (strBV s n) (strCV s n + 1))) (N + 2) n (min (strCV s n) (strBV s n + 1))) N q := ⟨q1, q2, q3, q4, q5, q6, q7, q8⟩
    refine ih _ (by omega) H' (fr.row R (by omega)) (fun j h1 h2 => ?_) (fun h2 f2 H2 C2 => k h2 (fr.trans f2) H2 C2)
    by_cases e : j = n
    · subst e
      rw [hA_sA, hA_sA, hA_sA, if_neg (by omega), if_pos ⟨.refl _, .refl _⟩, if_pos ⟨.refl _, .refl _⟩, costs_at (by omega)]
      exact ⟨.refl _, .refl _⟩
    · rw [hA_sA, hA_sA, hA_sA, hA_sA, if_neg (by omega), if_neg (by omega), if_neg (by omega), if_neg (by omega)]
      exact C j (by omega) h2
theorem s5_countBackwards (hq : q + 2 ≤ N ∨ N + 3 ≤ q) (hs : s.length ≤ 48) (H : isEnc h N q) (R : isRow h q cap s) (k : ∀ h', jFr N (N + 3) h h' → isEnc h' N q → encC h' N s 0 → Q (.inl none) h') : jCall (d + 3) mX5_countBackwards [jR N] h Q := by
  obtain ⟨q1, q2, q3, q4, q5, q6, q7, q8⟩ := id H
  refine bX5_countBackwards (fun _ => ⟨q1, ?_⟩)
  rw [q8]
  refine ⟨R.1, s7_count R ⟨_, rfl, s9_min ⟨_, rfl, q1, ?_⟩⟩⟩
  rw [q2, q3, q6, q7, show min (s.length : Int) 48 = s.length by omega]
  refine ⟨q4, by omega, by omega, q5, by omega, ⟨by omega, by omega⟩, ?_⟩
  have fr : jFr N (N + 3) h (sA (sA h (N + 1) s.length 0) (N + 2) s.length 0) := ⟨.refl _, .refl _, .refl _, .refl _, fun o ho => ⟨fun f => ⟨.refl _, .refl _⟩, fun i => ⟨by rw [hA_sA, hA_sA, if_neg (by omega), if_neg (by omega)], .refl _⟩⟩⟩
  refine s5_cb_loop hq hs s.length _ (by omega) ⟨q1, q2, q3, q4, q5, q6, q7, q8⟩ (fr.row R (by omega)) (fun j h1 h2 => ?_) (fun h2 f2 H2 C2 => k h2 (fr.trans f2) H2 C2)
  rw [show j = s.length by omega, hA_sA, hA_sA, hA_sA, if_neg (by omega), if_pos ⟨.refl _, .refl _⟩, if_pos ⟨.refl _, .refl _⟩, List.drop_eq_nil_of_le (by omega)]
  exact ⟨.refl _, .refl _⟩
theorem twoAt_rg {s : List Int} {f : Int} : -1 ≤ twoAt s f ∧ twoAt s f ≤ 99 := by
  unfold twoAt
  split
  · rename_i hd
    unfold digB at hd
    rw [Bool.and_eq_true, decide_eq_true_eq] at hd
    obtain ⟨⟨z1, -, z2⟩, z3⟩ := hd
    rw [show (2 : Int).toNat = 2 from rfl, seg_cons (by omega), seg_cons (by omega), List.all_cons, List.all_cons, Bool.and_eq_true, Bool.and_eq_true] at z3
    have y1 := of_decide_eq_true z3.1
    have y2 := of_decide_eq_true z3.2.1
    omega
  · omega
def okB (s : List Int) : Prop := ∀ x ∈ s, x = 29 ∨ (32 ≤ x ∧ x < 128)
theorem okB.at {s : List Int} (h : okB s) {i : Nat} (hi : i < s.length) : lAt s i = 29 ∨ (32 ≤ lAt s i ∧ lAt s i < 128) := by
  rw [lAt_get hi, List.getD_eq_getElem?_getD, List.getElem?_eq_getElem hi]
  exact h _ (List.getElem_mem _)
theorem encF_rg {s : List Int} (hb : okB s) : ∀ n i c, ∀ x ∈ encF s n i c, -1 ≤ x ∧ x ≤ 200
  | 0, _, _ => by simp [encF]
  | n + 1, i, c => by
    intro x hx
    unfold encF at hx
    split at hx
    · simp at hx
    · rename_i hi
      split at hx
      · rcases List.mem_cons.mp hx with e | e
        · rw [e]; split <;> omega
        · exact encF_rg hb n i (!c) x e
      · rcases List.mem_cons.mp hx with e | e
        · have := hb.at (i := i) (by omega)
          have := twoAt_rg (s := s) (f := i)
          rw [e]
          unfold chrV
          split
          · omega
          · split <;> omega
        · exact encF_rg hb n _ c x e
/-- the characters of a string -/
def encS (s : List Int) : Bool := decide ((costs s).2 < (costs s).1)
def encP (s : List Int) : List Int := [104 + b2i (encS s), 102] ++ encF s 96 0 (encS s)
def encV (s : List Int) : List Int := encP s ++ [chkV (encP s) (encP s).length, 106]
theorem lAt_all {l : List Int} {a b : Int} (h : ∀ x ∈ l, a ≤ x ∧ x ≤ b) (ha : a ≤ -1) (hb : -1 ≤ b) (i : Int) : a ≤ lAt l i ∧ lAt l i ≤ b := by
  unfold lAt
  split
  · rename_i hi
    rw [List.getD_eq_getElem?_getD, List.getElem?_eq_getElem (by omega)]
    exact h _ (List.getElem_mem _)
  · omega
theorem s5_encode_loop {r : Nat} (hqr : q + 2 ≤ r ∨ r + 2 ≤ q) (hNr : N + 3 ≤ r ∨ r + 2 ≤ N) (hs : s.length ≤ 48) (hb : okB s) (n : Nat) : ∀ (i : Nat) (c : Bool) (t : List Int) (h : jH), isEnc h N q → isRow h q cap s → encC h N s 0 → isRow h r 100 t → t.length + n ≤ 98 → (∀ x ∈ t, -1 ≤ x ∧ x ≤ 200) → n ≤ 96 →
    (∀ h', jFI r (r + 2) h h' → isRow h' r 100 ((t ++ encF s n i c) ++ [chkV (t ++ encF s n i c) (t ++ encF s n i c).length, 106]) → Q (.inl none) h') → jWp (d + 4) mX5_encode 61 [(0, jR N), (2, jR r), (3, jI (b2i c)), (4, jI i), (5, jI (96 - n))] [] h Q := by
  have bb : ∀ x ∈ s, 0 ≤ x ∧ x < 256 := fun x hx => by have := hb x hx; omega
  have done : ∀ (t : List Int) (h : jH), isRow h r 100 t → t.length ≤ 98 → (∀ x ∈ t, -1 ≤ x ∧ x ≤ 200) → (∀ h', jFI r (r + 2) h h' → isRow h' r 100 (t ++ [chkV t t.length, 106]) → Q (.inl none) h') →
      hK h r = 6 ∧ jCall (d + 3) mX7_count [jR r] h (fun o h157 => ∃ v157, o = .inl (some (jI v157)) ∧ jCall (d + 3) mX2_checkCharacter [jR r, jI v157] h157 (fun o h160 => ∃ v160, o = .inl (some (jI v160)) ∧ hK h160 r = 6 ∧ jCall (d + 3) mX7_put [jR r, jI v160] h160 (fun o h163 => o = .inl none ∧ hK h163 r = 6 ∧ jCall (d + 3) mX7_put [jR r, jI 106] h163 (fun o h169 => o = .inl none ∧ Q (.inl none) h169)))) := by
    intro t h R hl ht k
    refine ⟨R.1, s7_count R ⟨_, rfl, s2_check (fun i => by have := lAt_all ht (by decide) (by decide) i; omega) (by omega) R ⟨_, rfl, R.1, s7_put R (fun g f1 R1 => ⟨rfl, R1.1, ?_⟩)⟩⟩⟩
    rw [lput_app (by omega)] at R1
    refine s7_put R1 (fun g2 f2 R2 => ⟨rfl, k g2 (f1.trans f2) ?_⟩)
    rw [lput_app (by simp; omega)] at R2
    simpa using R2
  induction n with
  | zero =>
    intro i c t h H R C T hl ht hn k
    simp only [encF, List.append_nil] at k
    exact bX5_encode_61 (fun _ _ _ _ => ⟨fun _ => done t h T (by omega) ht k, fun z => by omega⟩)
  | succ n ih =>
    intro i c t h H R C T hl ht hn k
    unfold encF at k
    refine bX5_encode_61 (fun _ _ _ ri => ⟨fun z => by omega, fun z => ⟨H.1, ?_⟩⟩)
    rw [H.2.2.2.2.2.2.2]
    refine ⟨R.1, s7_count R ⟨_, rfl, fun z2 => ?_, fun z2 => ⟨H.1, s5_isChangeBest hs bb (by omega) H R (fun j h1 h2 => C j (by omega) h2) ⟨_, rfl, fun z3 => ⟨H.1, ?_⟩, fun z3 => ?_⟩⟩⟩⟩
    · rw [if_pos (by omega)] at k
      simp only [List.append_nil] at k
      exact done t h T (by omega) ht k
    · rw [if_neg (by omega), if_neg (by rw [(b2i_eq _).mp z3]; decide)] at k
      refine s5_straightCharacter bb (by omega) H R ⟨_, rfl, T.1, s7_put T (fun g f1 T1 => ⟨rfl, ?_⟩)⟩
      rw [lput_app (by omega)] at T1
      have H1 := f1.fr.enc H (by omega)
      have R1 := f1.row R (by omega)
      have C1 := f1.fr.encC C (by omega)
      have ct : ∀ x ∈ t ++ [chrV s i c], -1 ≤ x ∧ x ≤ 200 := by
        intro x hx
        rcases List.mem_append.mp hx with e | e
        · exact ht x e
        · have := hb.at (i := i) (by omega)
          have := twoAt_rg (s := s) (f := i)
          rw [List.mem_singleton.mp e]
          unfold chrV
          split
          · omega
          · split <;> omega
      have br := bicV_rg s i
      refine ⟨fun z4 => ⟨⟨by omega, by omega⟩, ⟨by omega, by omega⟩, ?_⟩, fun z4 => ⟨H1.1, s5_bytesInC H1 R1 ⟨_, rfl, ⟨by omega, by omega⟩, ⟨by omega, by omega⟩, ?_⟩⟩⟩
      · have cf := (b2i_eq _).mp z4
        subst cf
        rw [if_neg (by decide)] at k
        have := ih (i + 1) false (t ++ [chrV s i false]) g H1 R1 C1 T1 (by simp; omega) ct (by omega) (fun g2 f2 T2 => k g2 (f1.trans f2) (by simpa using T2))
        rw [show (96 - ((n + 1 : Nat) : Int) + 1) = 96 - n by omega]
        exact this
      · have cf := (b2i_ne _).mp z4
        subst cf
        rw [if_pos rfl] at k
        have := ih (i + bicV s i) true (t ++ [chrV s i true]) g H1 R1 C1 T1 (by simp; omega) ct (by omega) (fun g2 f2 T2 => k g2 (f1.trans f2) (by simpa using T2))
        rw [show (96 - ((n + 1 : Nat) : Int) + 1) = 96 - n by omega]
        rw [Int.natCast_add] at this
        exact this
    · rw [if_neg (by omega), if_pos ((b2i_ne _).mp z3)] at k
      refine ⟨fun z4 => ⟨T.1, s7_put T (fun g f1 T1 => ⟨rfl, fun y => absurd z4 y, fun _ => ⟨⟨by omega, by omega⟩, ?_⟩⟩)⟩, fun z4 => ⟨T.1, s7_put T (fun g f1 T1 => ⟨rfl, fun _ => ⟨⟨by omega, by omega⟩, ?_⟩, fun y => absurd y z4⟩)⟩⟩
      · have cf := (b2i_eq _).mp z4
        subst cf
        rw [if_neg (by decide)] at k
        rw [lput_app (by omega)] at T1
        have := ih i true (t ++ [99]) g (f1.fr.enc H (by omega)) (f1.row R (by omega)) (f1.fr.encC C (by omega)) T1 (by simp; omega) (fun x hx => by
          rcases List.mem_append.mp hx with e | e
          · exact ht x e
          · rw [List.mem_singleton.mp e]; omega) (by omega) (fun g2 f2 T2 => k g2 (f1.trans f2) (by simpa using T2))
        rw [show (96 - ((n + 1 : Nat) : Int) + 1) = 96 - n by omega]
        exact this
      · have cf := (b2i_ne _).mp z4
        subst cf
        rw [if_pos rfl] at k
        rw [lput_app (by omega)] at T1
        have := ih i false (t ++ [100]) g (f1.fr.enc H (by omega)) (f1.row R (by omega)) (f1.fr.encC C (by omega)) T1 (by simp; omega) (fun x hx => by
          rcases List.mem_append.mp hx with e | e
          · exact ht x e
          · rw [List.mem_singleton.mp e]; omega) (by omega) (fun g2 f2 T2 => k g2 (f1.trans f2) (by simpa using T2))
        rw [show (96 - ((n + 1 : Nat) : Int) + 1) = 96 - n by omega]
        exact this
theorem s5_encode {r q0 : Nat} {t0 : List Int} (hq : q + 2 ≤ N ∨ N + 3 ≤ q) (hqr : q + 2 ≤ r ∨ r + 2 ≤ q) (hNr : N + 3 ≤ r ∨ r + 2 ≤ N) (hs : s.length ≤ 48) (hb : okB s) (H : isEnc h N q0) (R : isRow h q cap s) (T : isRow h r 100 t0)
    (k : ∀ h1 h', jFr N (N + 3) h h1 → jFI r (r + 2) h1 h' → isEnc h' N q → isRow h' r 100 (encV s) → Q (.inl none) h') : jCall (d + 4) mX5_encode [jR N, jR q, jR r] h Q := by
  have H1 : isEnc (sR h 302 N q) N q := ⟨H.1, by rw [hR_sR, if_neg (by omega)]; exact H.2.1, by rw [hR_sR, if_neg (by omega)]; exact H.2.2.1, H.2.2.2.1, H.2.2.2.2.1, H.2.2.2.2.2.1, H.2.2.2.2.2.2.1, by rw [hR_sR, if_pos ⟨.refl _, .refl _⟩]⟩
  have f0 : jFr N (N + 3) h (sR h 302 N q) := ⟨.refl _, .refl _, .refl _, .refl _, fun o ho => ⟨fun f => ⟨.refl _, by rw [hR_sR, if_neg (by omega)]⟩, fun i => ⟨.refl _, .refl _⟩⟩⟩
  refine bX5_encode (fun _ => ⟨H.1, s5_countBackwards hq hs H1 (f0.row R (by omega)) (fun h1 f1 H2 C => ⟨rfl, ?_⟩)⟩)
  have T1 := (f0.trans f1).row T (by omega)
  have R1 := (f0.trans f1).row R (by omega)
  refine ⟨T1.1, s7_clear T1 (fun h2 f2 T2 => ⟨rfl, ?_⟩)⟩
  have H3 := f2.fr.enc H2 (by omega)
  have C3 := f2.fr.encC C (by omega)
  have R3 := f2.row R1 (by omega)
  have c0 := C3 0 (by omega) (by omega)
  rw [List.drop_zero] at c0
  obtain ⟨q1, q2, q3, q4, q5, q6, q7, q8⟩ := id H3
  refine ⟨q1, ?_⟩
  rw [q2, q3, q6, q7, show hA h2 (N + 1) 0 = (costs s).1 from c0.1, show hA h2 (N + 2) 0 = (costs s).2 from c0.2]
  have go : ∀ b : Bool, encS s = b → ∀ v : Int, v = 104 + b2i b → hK h2 r = 6 ∧ jCall (d + 3) mX7_put [jR r, jI v] h2 (fun o h46 => o = .inl none ∧ hK h46 r = 6 ∧ jCall (d + 3) mX7_put [jR r, jI 102] h46 (fun o h52 => o = .inl none ∧ jWp (d + 4) mX5_encode 61 [(0, jR N), (2, jR r), (3, jI (b2i b)), (4, jI 0), (5, jI 0)] [] h52 Q)) := by
    intro b hb2 v hv
    refine ⟨T2.1, s7_put T2 (fun h3 f3 T3 => ⟨rfl, T3.1, s7_put T3 (fun h4 f4 T4 => ⟨rfl, ?_⟩)⟩)⟩
    rw [lput_app (l := []) (by simp), List.nil_append, hv, lput_app (by simp)] at T4
    have f34 := f3.trans f4
    refine s5_encode_loop hqr hNr hs hb 96 0 b _ h4 (f34.fr.enc H3 (by omega)) (f34.row R3 (by omega)) (f34.fr.encC C3 (by omega)) T4 (by simp) (fun x hx => ?_) (by omega) (fun h5 f5 T5 => k h1 h5 (f0.trans f1) (f2.trans (f34.trans f5)) (f5.fr.enc (f34.fr.enc H3 (by omega)) (by omega)) ?_)
    · have := b2i_rg b
      simp at hx
      rcases hx with e | e <;> omega
    · unfold encV encP
      rw [hb2]
      simpa using T5
  refine ⟨q5, by decide, by decide, fun _ => ⟨q4, by decide, fun _ => ⟨fun z => ?_, fun z => ?_⟩⟩⟩
  · exact go false (decide_eq_false (by omega)) 104 rfl
  · exact go true (decide_eq_true (by omega)) 105 rfl
end N5
