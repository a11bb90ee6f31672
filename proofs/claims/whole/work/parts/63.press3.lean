/-! THE PRESS: modules -/
theorem isRow.setA {h : jH} {r cap : Nat} {l : List Int} (H : isRow h r cap l) {i : Nat} (hi : i < l.length) (v : Int) : isRow (sA h (r + 1) i v) r cap (l.set i v) := by
  obtain ⟨q1, q2, q3, q4, q5, q6, q7⟩ := H
  refine ⟨q1, q2, q3, q4, by show hI h 501 r = _; simpa using q5, by simpa using q6, fun j hj => ?_⟩
  simp at hj
  rw [hA_sA, List.getD_eq_getElem?_getD, List.getElem?_set]
  by_cases e : i = j
  · rw [if_pos ⟨.refl _, by omega⟩, if_pos e, if_pos (by omega)]
    rfl
  · rw [if_neg (by omega), if_neg e, q7 j (by omega), List.getD_eq_getElem?_getD]
/-- the middle from i on turned round -/
def midR (c : List Int) (i : Nat) : List Int := (List.range c.length).map (fun j => if i ≤ j ∧ j + i < c.length then c.getD (c.length - 1 - j) 0 else c.getD j 0)
theorem midR_zero (c : List Int) : midR c 0 = c.reverse := by
  unfold midR
  refine List.ext_getElem (by simp) (fun j h1 h2 => ?_)
  simp at h1 h2
  rw [List.getElem_map, List.getElem_range, if_pos (by omega), List.getElem_reverse, List.getD_eq_getElem?_getD, List.getElem?_eq_getElem (by omega)]
  rfl
theorem midR_end (c : List Int) {i : Nat} (h : c.length / 2 ≤ i) : midR c i = c := by
  unfold midR
  refine List.ext_getElem (by simp) (fun j h1 h2 => ?_)
  rw [List.getElem_map, List.getElem_range]
  by_cases z : i ≤ j ∧ j + i < c.length
  · rw [if_pos z, show c.length - 1 - j = j by omega, List.getD_eq_getElem?_getD, List.getElem?_eq_getElem h2]
    rfl
  · rw [if_neg z, List.getD_eq_getElem?_getD, List.getElem?_eq_getElem h2]
    rfl
theorem midR_step (c : List Int) {i : Nat} (h : i < c.length / 2) : midR ((c.set i (c.getD (c.length - 1 - i) 0)).set (c.length - 1 - i) (c.getD i 0)) (i + 1) = midR c i := by
  unfold midR
  simp only [List.length_set]
  refine List.map_congr_left (fun j hj => ?_)
  rw [List.mem_range] at hj
  have g : ∀ m : Nat, m < c.length → ((c.set i (c.getD (c.length - 1 - i) 0)).set (c.length - 1 - i) (c.getD i 0)).getD m 0 = if m = c.length - 1 - i then c.getD i 0 else if m = i then c.getD (c.length - 1 - i) 0 else c.getD m 0 := fun m hm => by
    rw [List.getD_eq_getElem?_getD, List.getElem?_set]
    by_cases e : c.length - 1 - i = m
    · rw [if_pos e, if_pos (by simp; omega), if_pos e.symm]
      rfl
    · rw [if_neg e, List.getElem?_set]
      by_cases e2 : i = m
      · rw [if_pos e2, if_pos (show i < c.length by omega), if_neg (fun w => e w.symm), if_pos e2.symm]
        rfl
      · rw [if_neg e2, if_neg (fun w => e w.symm), if_neg (fun w => e2 w.symm), List.getD_eq_getElem?_getD (l := c)]
  by_cases z : i + 1 ≤ j ∧ j + (i + 1) < c.length
  · rw [if_pos z, if_pos (by omega), g _ (by omega), if_neg (by omega), if_neg (by omega)]
  · rw [if_neg z, g j hj]
    by_cases e : j = c.length - 1 - i
    · rw [if_pos e, if_pos (by omega), show c.length - 1 - j = i by omega]
    · rw [if_neg e]
      by_cases e2 : j = i
      · rw [if_pos e2, if_pos (by omega), e2]
      · rw [if_neg e2, if_neg (by omega)]
section U3
variable {d x : Nat} {h : jH} {Q : jO → jH → Prop} {s : jP} {r cap : Nat}
theorem s7_turn_loop (n : Nat) : ∀ (i : Nat) (h : jH) (c : List Int), c.length / 2 - i = n → i ≤ c.length / 2 → isRow h r cap c → (∀ h', jFI r (r + 2) h h' → isRow h' r cap (midR c i) → Q (.inl none) h') → jWp d mX7_turnRound 2 [(0, jR r), (1, jI i)] [] h Q := by
  induction n with
  | zero =>
    intro i h c hn hi H k
    have cl := H.2.2.2.2.2.1
    refine bX7_turnRound_2 (fun ok _ => ⟨H.1, fun _ => ?_⟩)
    rw [H.2.2.2.2.1]
    refine ⟨by omega, fun _ => ?_, fun z => by omega⟩
    rw [midR_end c (by omega)] at k
    exact k h .rfl H
  | succ n ih =>
    intro i h c hn hi H k
    have cl := H.2.2.2.2.2.1
    refine bX7_turnRound_2 (fun ok _ => ⟨H.1, fun _ => ?_⟩)
    have c31 := H.cap31 ok
    rw [H.2.2.2.2.1, H.2.1, H.2.2.2.1]
    have e1 : (c.length : Int) - 1 - i = ((c.length - 1 - i : Nat) : Int) := by omega
    rw [e1, H.2.2.2.2.2.2 i (by omega), H.2.2.2.2.2.2 (c.length - 1 - i) (by omega)]
    refine ⟨by omega, fun z => by omega, fun z => ⟨⟨by omega, by omega⟩, ⟨by omega, by omega⟩, H.2.2.1, by omega, by omega, fun _ => ⟨by omega, by omega, fun _ => ⟨⟨by omega, by omega⟩, ?_⟩⟩⟩⟩
    have R1 := H.setA (i := i) (by omega) (c.getD (c.length - 1 - i) 0)
    have R2 := R1.setA (i := c.length - 1 - i) (by simp; omega) (c.getD i 0)
    have f : jFI r (r + 2) h (sA (sA h (r + 1) i (c.getD (c.length - 1 - i) 0)) (r + 1) ((c.length - 1 - i : Nat) : Int) (c.getD i 0)) := ⟨.refl _, .refl _, .refl _, .refl _, .refl _, .refl _, fun o ho => ⟨fun g => .refl _, fun j => by rw [hA_sA, hA_sA, if_neg (by omega), if_neg (by omega)]⟩⟩
    refine ih (i + 1) _ _ (by simp; omega) (by simp; omega) R2 (fun h' f' R' => k h' (f.trans f') ?_)
    rw [midR_step c (by omega)] at R'
    exact R'
theorem s7_turnRound {c : List Int} (H : isRow h r cap c) (k : ∀ h', jFI r (r + 2) h h' → isRow h' r cap c.reverse → Q (.inl none) h') : jCall d mX7_turnRound [jR r] h Q :=
  bX7_turnRound (fun _ => s7_turn_loop (c.length / 2) 0 h c (by omega) (by omega) H (by rw [midR_zero]; exact k))
theorem u_turn (H : isLP h x s) (k : ∀ h', jFI (x + 5) (x + 7) h h' → isLP h' x ((s.1.1, s.1.2.1, s.1.2.2.1.reverse, s.1.2.2.2), s.2) → Q (.inl (some (jI s.1.2.2.1.length))) h') : jCall (d + 1) mX10_turn [jR x] h Q := by
  refine bX10_turn (fun _ => ⟨H.1.1, ?_⟩)
  rw [H.1.2.2.2.1]
  refine ⟨H.2.2.2.2.1.1, s7_turnRound H.2.2.2.2.1 (fun h' f R => ⟨rfl, ?_⟩)⟩
  have H1 := lp_strip H f R
  refine ⟨H1.1.1, ?_⟩
  rw [H1.1.2.2.2.1]
  have := k h' f H1
  exact ⟨R.1, s7_count R ⟨_, rfl, by simpa using this⟩⟩
def bit32 (a : Int) : List Int := bitsF a 32
theorem u_putModules {a : Int} (H : isLP h x s) (hl : s.1.2.2.1.length + 32 ≤ 2000) (k : ∀ h', jFI (x + 5) (x + 7) h h' → isLP h' x ((s.1.1, s.1.2.1, s.1.2.2.1 ++ bit32 a, s.1.2.2.2), s.2) → Q (.inl none) h') : jCall (d + 1) mX10_putModules [jR x, jI a] h Q := by
  have loop : ∀ (n : Nat) (h : jH) (l : List Int), n ≤ 32 → l.length + n ≤ 2000 → isLP h x ((s.1.1, s.1.2.1, l, s.1.2.2.2), s.2) → (∀ h', jFI (x + 5) (x + 7) h h' → isLP h' x ((s.1.1, s.1.2.1, l ++ bitsF a n, s.1.2.2.2), s.2) → Q (.inl none) h') → jWp (d + 1) mX10_putModules 3 [(0, jR x), (1, jI a), (2, jI ((n : Int) - 1))] [] h Q := by
    intro n
    induction n with
    | zero =>
      intro h l hn hl H k
      exact bX10_putModules_3 (fun _ _ _ => ⟨fun _ => k h .rfl (by simpa [bitsF] using H), fun z => by omega⟩)
    | succ n ih =>
      intro h l hn hl H k
      refine bX10_putModules_3 (fun _ _ _ => ⟨fun z => by omega, fun z => ⟨H.1.1, by omega, by omega, ?_⟩⟩)
      rw [H.1.2.2.2.1, show (((n + 1 : Nat) : Int) - 1).toNat = n by omega]
      refine ⟨H.2.2.2.2.1.1, s7_put H.2.2.2.2.1 (fun h1 f1 R1 => ⟨rfl, ⟨by omega, by omega⟩, ?_⟩)⟩
      rw [lput_app (show l.length < 2000 by omega)] at R1
      have H1 := lp_strip H f1 R1
      rw [show (((n + 1 : Nat) : Int) - 1 + (-1)) = (n : Int) - 1 by omega]
      refine ih h1 _ (by omega) (by simp; omega) H1 (fun h2 f2 H2 => k h2 (f1.trans f2) ?_)
      simpa [bitsF] using H2
  exact bX10_putModules (fun _ _ => loop 32 h s.1.2.2.1 (by decide) hl H k)
def barsV (s : jP) (a b c d e : Int) : Int × jP := if 2000 < s.1.2.2.1.length + 160 then (-1, s) else ((s.1.2.2.1.length : Int) + 160, ((s.1.1, s.1.2.1, s.1.2.2.1 ++ (bit32 a ++ (bit32 b ++ (bit32 c ++ (bit32 d ++ bit32 e)))), s.1.2.2.2), s.2))
theorem bit32_len (a : Int) : (bit32 a).length = 32 := bitsF_len a 32
theorem u_bars {a b c e f : Int} (H : isLP h x s) (k : ∀ h', jFI (x + 5) (x + 7) h h' → isLP h' x (barsV s a b c e f).2 → Q (.inl (some (jI (barsV s a b c e f).1))) h') : jCall (d + 2) mX10_bars [jR x, jI a, jI b, jI c, jI e, jI f] h Q := by
  have tl := H.2.2.2.2.1.2.2.2.2.2.1
  unfold barsV at k
  refine bX10_bars (fun _ _ _ _ _ _ => ⟨H.1.1, ?_⟩)
  rw [H.1.2.2.2.1]
  refine ⟨H.2.2.2.2.1.1, s7_count H.2.2.2.2.1 ⟨_, rfl, ⟨by omega, by omega⟩, fun z => ⟨H.1.1, ?_⟩, fun z => ?_⟩⟩
  · rw [if_neg (by omega)] at k
    refine u_putModules H (by omega) (fun h1 f1 H1 => ⟨rfl, H1.1.1, u_putModules H1 (by simp [bit32_len]; omega) (fun h2 f2 H2 => ⟨rfl, H2.1.1, u_putModules H2 (by simp [bit32_len]; omega) (fun h3 f3 H3 => ⟨rfl, H3.1.1, u_putModules H3 (by simp [bit32_len]; omega) (fun h4 f4 H4 => ⟨rfl, H4.1.1, u_putModules H4 (by simp [bit32_len]; omega) (fun h5 f5 H5 => ⟨rfl, H5.1.1, ?_⟩)⟩)⟩)⟩)⟩)
    rw [H5.1.2.2.2.1]
    refine ⟨H5.2.2.2.2.1.1, s7_count H5.2.2.2.2.1 ⟨_, rfl, ?_⟩⟩
    have := k h5 ((((f1.trans f2).trans f3).trans f4).trans f5) (by simpa using H5)
    simpa [bit32_len, Int.add_assoc] using this
  · rw [if_pos (by omega)] at k
    exact k h .rfl H
def inkV (s : jP) (i : Int) (b : Bool) : Int × jP := if 0 ≤ i ∧ i < s.1.2.2.1.length then (s.1.2.2.1.getD i.toNat 0, ((s.1.1, s.1.2.1, s.1.2.2.1.set i.toNat (b2i b), s.1.2.2.2), s.2)) else (-1, s)
theorem u_ink {i : Int} {b : Bool} (H : isLP h x s) (k : ∀ h', jFI (x + 5) (x + 7) h h' → isLP h' x (inkV s i b).2 → Q (.inl (some (jI (inkV s i b).1))) h') : jCall (d + 1) mX10_ink [jR x, jI i, jI (b2i b)] h Q := by
  unfold inkV at k
  have go : ∀ v : Int, v = b2i b → hK h (hR h 702 x) = 6 ∧ jCall d mX7_replace [jR (hR h 702 x), jI i, jI v] h (fun o h' => ∃ w, o = .inl (some (jI w)) ∧ Q (.inl (some (jI w))) h') := fun v hv => by
    rw [H.1.2.2.2.1, hv]
    refine ⟨H.2.2.2.2.1.1, s7_replace H.2.2.2.2.1 (fun z => ⟨_, rfl, ?_⟩) (fun z z2 h' f R => ⟨_, rfl, ?_⟩)⟩
    · rw [if_neg (by omega)] at k
      exact k h .rfl H
    · rw [if_pos ⟨z, z2⟩] at k
      exact k h' f (lp_strip H f R)
  refine bX10_ink (fun _ _ _ => ⟨H.1.1, fun z => go 0 ?_, fun z => go 1 ?_⟩)
  · rw [(b2i_eq _).mp z]; rfl
  · rw [(b2i_ne _).mp z]; rfl
def checkV (t : List Int) : Int := if 0 < t.length ∧ t.length ≤ 30 ∧ digB t 0 t.length = true then ckOf (seg t 0 t.length) else -1
theorem u_check (H : isLP h x s) (k : ∀ h', jFI (x + 1) (x + 3) h h' → isLP h' x (([], s.1.2), s.2) → Q (.inl (some (jI (checkV s.1.1)))) h') : jCall (d + 2) mX10_check [jR x] h Q := by
  have R := H.2.2.1
  unfold checkV at k
  have clr : ∀ v : Int, v = (if 0 < s.1.1.length ∧ s.1.1.length ≤ 30 ∧ digB s.1.1 0 s.1.1.length = true then ckOf (seg s.1.1 0 s.1.1.length) else -1) → hK h x = 8 ∧ hK h (hR h 700 x) = 6 ∧ jCall (d + 1) mX7_clear [jR (hR h 700 x)] h (fun o h58 => o = .inl none ∧ Q (.inl (some (jI v))) h58) := fun v hv => by
    rw [H.1.2.1]
    exact ⟨H.1.1, R.1, s7_clear R (fun h' f R' => ⟨rfl, by rw [hv]; exact k h' f (lp_tape H f R')⟩)⟩
  refine bX10_check (fun _ => ⟨H.1.1, ?_⟩)
  rw [H.1.2.1]
  refine ⟨R.1, s7_count R ⟨_, rfl, fun z => clr _ ?_, fun z => ⟨fun z2 => clr _ ?_, fun z2 => ⟨H.1.1, ?_⟩⟩⟩⟩
  · rw [if_neg (by omega)]
  · rw [if_neg (by omega)]
  · rw [H.1.2.1]
    refine ⟨R.1, s7_areDigits R ⟨_, rfl, fun y => clr _ ?_, fun y => ⟨H.1.1, ?_⟩⟩⟩
    · rw [if_neg (by rw [(b2i_eq _).mp y]; simp)]
    · rw [H.1.2.1]
      refine ⟨R.1, s7_checkDigit (by omega) (by decide) R ⟨_, rfl, clr _ ?_⟩⟩
      rw [if_pos ((b2i_ne _).mp y), if_pos ⟨by omega, by omega, (b2i_ne _).mp y⟩]
      rfl
end U3
