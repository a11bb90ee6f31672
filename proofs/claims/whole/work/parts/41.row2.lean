/-! MORE OF ROWS -/
def isD (c : Int) : Bool := decide (48 ≤ c ∧ c ≤ 57)
def seg (l : List Int) (f n : Nat) : List Int := (l.drop f).take n
def digB (l : List Int) (f n : Int) : Bool := decide (0 ≤ f ∧ 0 ≤ n ∧ f + n ≤ l.length) && (seg l f.toNat n.toNat).all isD
def numOf (s : List Int) : Int := s.foldl (fun a c => a * 10 + (c - 48)) 0
def twoAt (l : List Int) (f : Int) : Int := if digB l f 2 = true then (l.getD f.toNat 0 - 48) * 10 + l.getD (f.toNat + 1) 0 - 48 else -1
/-- the check's sum, from the right: weights w, 4 - w, .. -/
def ckr : Int → List Int → Int
  | _, [] => 0
  | w, c :: t => (c - 48) * w + ckr (4 - w) t
def ckOf (s : List Int) : Int := (10 - ckr 3 s.reverse % 10) % 10
theorem seg_cons {l : List Int} {f n : Nat} (h : f < l.length) : seg l f (n + 1) = l.getD f 0 :: seg l (f + 1) n := by
  unfold seg
  rw [List.drop_eq_getElem_cons h, List.take_succ_cons, List.getD_eq_getElem?_getD, List.getElem?_eq_getElem h]
  rfl
theorem seg_zero (l : List Int) (f : Nat) : seg l f 0 = [] := by simp [seg]
theorem seg_len {l : List Int} {f n : Nat} (h : f + n ≤ l.length) : (seg l f n).length = n := by
  simp [seg]
  omega
theorem drop_getD {l : List Int} {i : Nat} (h : i < l.length) : l.drop i = l.getD i 0 :: l.drop (i + 1) := by
  rw [List.drop_eq_getElem_cons h, List.getD_eq_getElem?_getD, List.getElem?_eq_getElem h]
  rfl
section R2
variable {d : Nat} {h : jH} {Q : jO → jH → Prop} {r cap q cap2 : Nat} {l m : List Int}
theorem s7_copyFrom (H : isRow h r cap l) (H2 : isRow h q cap2 m) (hq : q + 2 ≤ r ∨ r + 2 ≤ q) (k : ∀ h', jFI r (r + 2) h h' → isRow h' r cap (m.take cap) → Q (.inl none) h') : jCall (d + 1) mX7_copyFrom [jR r, jR q] h Q := by
  obtain ⟨a1, a2, a3, a4, a5, a6, a7⟩ := id H
  obtain ⟨b1, b2, b3, b4, b5, b6, b7⟩ := id H2
  refine bX7_copyFrom (fun ok => ⟨b1, fun _ => ⟨a1, by rw [a2]; exact a3, fun _ => s9_min ⟨_, rfl, b1, a1, by rw [b2]; exact b3, by rw [a2]; exact a3, ?_⟩⟩⟩)
  rw [a2, b2, a4, b4, b5]
  refine ⟨by omega, by omega, by omega, k _ ?_ ?_⟩
  · refine ⟨.refl _, .refl _, .refl _, .refl _, .refl _, .refl _, fun o ho => ⟨fun f => by rw [hI_sI, if_neg (by omega), hI_sF], fun i => by rw [hA_sI, hA_sF, if_neg (by omega)]⟩⟩
  · refine ⟨a1, a2, a3, a4, ?_, by simp; omega, fun i hi => ?_⟩
    · rw [hI_sI, if_pos ⟨.refl _, .refl _⟩]
      simp
      omega
    · simp at hi
      rw [hA_sI, hA_sF, if_pos (.refl _), if_pos (by omega), b7 i (by omega), List.getD_eq_getElem?_getD, List.getD_eq_getElem?_getD, List.getElem?_take, if_pos (by omega)]
def lputs (cap : Nat) (l m : List Int) : List Int := m.foldl (lput cap) l
theorem s7_append_loop (hq : q + 2 ≤ r ∨ r + 2 ≤ q) (n : Nat) : ∀ (i : Nat) (h : jH) (l : List Int), m.length - i = n → i ≤ m.length → isRow h r cap l → isRow h q cap2 m → (∀ h', jFI r (r + 2) h h' → isRow h' r cap (lputs cap l (m.drop i)) → Q (.inl none) h') → jWp (d + 1) mX7_append 2 [(0, jR r), (1, jR q), (2, jI i)] [] h Q := by
  induction n with
  | zero =>
    intro i h l hn hi H H2 k
    refine bX7_append_2 (fun ok _ => ⟨H2.1, fun _ => ⟨fun _ => ?_, fun h1 => ?_⟩⟩)
    · rw [List.drop_eq_nil_of_le (by omega)] at k
      exact k h .rfl H
    · rw [H2.2.2.2.2.1] at h1
      omega
  | succ n ih =>
    intro i h l hn hi H H2 k
    have c2 := H2.2.2.2.2.2.1
    refine bX7_append_2 (fun ok _ => ⟨H2.1, fun _ => ⟨fun h1 => ?_, fun h1 => ?_⟩⟩)
    · rw [H2.2.2.2.2.1] at h1
      omega
    · have c3 := H2.cap31 ok
      rw [H2.2.1, H2.2.2.2.1]
      refine ⟨H2.2.2.1, by omega, by omega, fun _ => ⟨H.1, s7_put H (fun h' f1 H' => ⟨rfl, ⟨by omega, by omega⟩, ?_⟩)⟩⟩
      refine ih (i + 1) h' _ (by omega) (by omega) H' (f1.row H2 (by omega)) (fun h2 f2 H2' => k h2 (f1.trans f2) ?_)
      rw [drop_getD (by omega)]
      rw [H2.get (by omega) (by omega)] at H2'
      exact H2'
theorem s7_append (hq : q + 2 ≤ r ∨ r + 2 ≤ q) (H : isRow h r cap l) (H2 : isRow h q cap2 m) (k : ∀ h', jFI r (r + 2) h h' → isRow h' r cap (lputs cap l m) → Q (.inl none) h') : jCall (d + 1) mX7_append [jR r, jR q] h Q :=
  bX7_append (fun _ => s7_append_loop hq m.length 0 h l (by omega) (by omega) H H2 k)
theorem lputs_app {cap : Nat} : ∀ {l m : List Int}, l.length + m.length ≤ cap → lputs cap l m = l ++ m
  | l, [], _ => by simp [lputs]
  | l, c :: t, hh => by
    simp at hh
    have ih := lputs_app (cap := cap) (l := l ++ [c]) (m := t) (by simp; omega)
    unfold lputs at *
    rw [List.foldl_cons, show lput cap l c = l ++ [c] from if_pos (by omega), ih]
    simp
theorem s7_isSameAs_loop (n : Nat) : ∀ (i : Nat), l.length - i = n → i ≤ l.length → l.length = m.length → isRow h r cap l → isRow h q cap2 m → Q (.inl (some (jI (b2i (decide (l.drop i = m.drop i)))))) h → jWp d mX7_isSameAs 15 [(0, jR r), (1, jR q), (2, jI i)] [] h Q := by
  induction n with
  | zero =>
    intro i hn hi hlm H H2 k
    refine bX7_isSameAs_15 (fun ok _ => ⟨H.1, fun _ => ⟨fun _ => ?_, fun h1 => ?_⟩⟩)
    · rw [List.drop_eq_nil_of_le (by omega), List.drop_eq_nil_of_le (by omega)] at k
      exact k
    · rw [H.2.2.2.2.1] at h1
      omega
  | succ n ih =>
    intro i hn hi hlm H H2 k
    have c1 := H.2.2.2.2.2.1
    have c2 := H2.2.2.2.2.2.1
    refine bX7_isSameAs_15 (fun ok _ => ⟨H.1, fun _ => ⟨fun h1 => ?_, fun h1 => ?_⟩⟩)
    · rw [H.2.2.2.2.1] at h1
      omega
    · have c3 := H.cap31 ok
      rw [H.2.1, H.2.2.2.1, H2.2.1, H2.2.2.2.1]
      rw [drop_getD (l := l) (i := i) (by omega), drop_getD (l := m) (i := i) (by omega)] at k
      have e1 := H.2.2.2.2.2.2 i (by omega)
      have e2 := H2.2.2.2.2.2.2 i (by omega)
      refine ⟨H.2.2.1, by omega, by omega, fun _ => ⟨H2.1, H2.2.2.1, by omega, fun _ => ⟨fun h2 => ⟨⟨by omega, by omega⟩, ?_⟩, fun h2 => ?_⟩⟩⟩
      · refine ih (i + 1) (by omega) (by omega) hlm H H2 ?_
        rw [e1, e2] at h2
        simp only [List.cons.injEq, h2, true_and] at k
        exact k
      · rw [e1, e2] at h2
        simp only [List.cons.injEq, h2, false_and, decide_false] at k
        exact k
theorem s7_isSameAs (H : isRow h r cap l) (H2 : isRow h q cap2 m) (k : Q (.inl (some (jI (b2i (decide (l = m)))))) h) : jCall d mX7_isSameAs [jR r, jR q] h Q := by
  refine bX7_isSameAs (fun _ => ⟨H.1, fun _ => ⟨H2.1, fun _ => ⟨fun h1 => ?_, fun h1 => ?_⟩⟩⟩)
  · rw [H.2.2.2.2.1, H2.2.2.2.2.1] at h1
    exact s7_isSameAs_loop l.length 0 (by omega) (by omega) (by omega) H H2 (by simpa using k)
  · rw [H.2.2.2.2.1, H2.2.2.2.2.1] at h1
    have : ¬ l = m := fun e => h1 (by rw [e])
    simp only [this, decide_false] at k
    exact k
theorem s7_areDigits_loop {f n0 : Nat} (n : Nat) : ∀ (i : Nat), f + n0 - i = n → i ≤ f + n0 → f + n0 ≤ l.length → isRow h r cap l → Q (.inl (some (jI (b2i ((seg l i n).all isD))))) h → jWp d mX7_areDigits 22 [(0, jR r), (1, jI f), (2, jI n0), (3, jI i)] [] h Q := by
  induction n with
  | zero =>
    intro i hn hi hl H k
    have c1 := H.2.2.2.2.2.1
    refine bX7_areDigits_22 (fun ok _ _ _ => ?_)
    have c3 := H.cap31 ok
    refine ⟨⟨by omega, by omega⟩, ⟨fun _ => ?_, fun h1 => by omega⟩⟩
    rw [seg_zero] at k
    exact k
  | succ n ih =>
    intro i hn hi hl H k
    have c1 := H.2.2.2.2.2.1
    refine bX7_areDigits_22 (fun ok _ _ _ => ?_)
    have c3 := H.cap31 ok
    refine ⟨⟨by omega, by omega⟩, ⟨fun _ => by omega, fun h1 => ?_⟩⟩
    rw [H.2.1, H.2.2.2.1, H.2.2.2.2.2.2 i (by omega)]
    rw [seg_cons (by omega), List.all_cons] at k
    refine ⟨H.1, H.2.2.1, by omega, by omega, fun _ => ⟨fun h2 => ?_, fun h2 => ⟨fun h3 => ⟨⟨by omega, by omega⟩, ?_⟩, fun h3 => ?_⟩⟩⟩
    · rw [show isD (l.getD i 0) = false from decide_eq_false (by omega)] at k
      exact k
    · refine ih (i + 1) (by omega) (by omega) hl H ?_
      rw [show isD (l.getD i 0) = true from decide_eq_true (by omega), Bool.true_and] at k
      exact k
    · rw [show isD (l.getD i 0) = false from decide_eq_false (by omega)] at k
      exact k
theorem s7_areDigits {f n : Int} (H : isRow h r cap l) (k : Q (.inl (some (jI (b2i (digB l f n))))) h) : jCall d mX7_areDigits [jR r, jI f, jI n] h Q := by
  have c5 := H.2.2.2.2.1
  have c6 := H.2.2.2.2.2.1
  have no : ¬ (0 ≤ f ∧ 0 ≤ n ∧ f + n ≤ l.length) → Q (.inl (some (jI 0))) h := fun z => by
    unfold digB at k
    rw [decide_eq_false z] at k
    exact k
  refine bX7_areDigits (fun ok rf _ => ⟨fun h0 => no (by omega), fun h0 => ⟨fun h1 => no (by omega), fun h1 => ⟨H.1, fun _ => ?_⟩⟩⟩)
  have c3 := H.cap31 ok
  have rf2 := rf.2
  rw [c5]
  refine ⟨⟨by omega, by omega⟩, ⟨fun h2 => ?_, fun h2 => no (by omega)⟩⟩
  unfold digB at k
  rw [decide_eq_true (by omega), Bool.true_and] at k
  have := s7_areDigits_loop (d := d) (Q := Q) (h := h) (r := r) (cap := cap) (l := l) (f := f.toNat) (n0 := n.toNat) n.toNat f.toNat (by omega) (by omega) (by omega) H k
  rw [Int.toNat_of_nonneg (by omega), Int.toNat_of_nonneg (by omega)] at this
  exact this
theorem s7_twoDigits {f : Int} (hf : f < 2147483647) (H : isRow h r cap l) (k : Q (.inl (some (jI (twoAt l f)))) h) : jCall (d + 1) mX7_twoDigits [jR r, jI f] h Q := by
  have c6 := H.2.2.2.2.2.1
  refine bX7_twoDigits (fun ok _ => ⟨H.1, s7_areDigits H ⟨_, rfl, fun h0 => ?_, fun h0 => ?_⟩⟩)
  · unfold twoAt at k
    rw [if_neg (by rw [(b2i_eq _).mp h0]; decide)] at k
    exact k
  · have hd := (b2i_ne _).mp h0
    unfold twoAt at k
    rw [if_pos hd] at k
    unfold digB at hd
    rw [Bool.and_eq_true, decide_eq_true_eq] at hd
    obtain ⟨⟨z1, -, z2⟩, z3⟩ := hd
    have e2 : (2 : Int).toNat = 2 := rfl
    rw [e2, seg_cons (by omega), seg_cons (by omega), List.all_cons, List.all_cons, Bool.and_eq_true, Bool.and_eq_true] at z3
    have y1 := of_decide_eq_true z3.1
    have y2 := of_decide_eq_true z3.2.1
    have g2 := H.get (i := f + 1) (by omega) (by omega)
    rw [show (f + 1).toNat = f.toNat + 1 by omega] at g2
    rw [H.2.1, H.2.2.2.1, H.get z1 (by omega), g2]
    exact ⟨H.1, H.2.2.1, z1, by omega, fun _ => ⟨⟨by omega, by omega⟩, ⟨by omega, by omega⟩, ⟨by omega, by omega⟩, by omega, by omega, fun _ => ⟨⟨by omega, by omega⟩, ⟨by omega, by omega⟩, k⟩⟩⟩
theorem ten18 : ∀ k : Nat, k < 18 → (10 : Int) ^ k * 10 = 10 ^ (k + 1) ∧ (10 : Int) ^ (k + 1) ≤ 1000000000000000000 := by decide
theorem s7_digitsAt_loop {f n0 : Nat} (n : Nat) : ∀ (i c : Nat) (a : Int), f + n0 - i = n → i ≤ f + n0 → f + n0 ≤ l.length → c + n ≤ 18 → 0 ≤ a → a < 10 ^ c → (seg l i n).all isD = true → isRow h r cap l → Q (.inl (some (jL ((seg l i n).foldl (fun a c => a * 10 + (c - 48)) a)))) h → jWp (d + 1) mX7_digitsAt 18 [(0, jR r), (1, jI f), (2, jI n0), (3, jL a), (5, jI i)] [] h Q := by
  induction n with
  | zero =>
    intro i c a hn hi hl hc ha hb hs H k
    have c1 := H.2.2.2.2.2.1
    refine bX7_digitsAt_18 (fun ok _ _ _ _ => ?_)
    have c3 := H.cap31 ok
    refine ⟨⟨by omega, by omega⟩, ⟨fun _ => ?_, fun h1 => by omega⟩⟩
    rw [seg_zero] at k
    exact k
  | succ n ih =>
    intro i c a hn hi hl hc ha hb hs H k
    have c1 := H.2.2.2.2.2.1
    refine bX7_digitsAt_18 (fun ok _ _ _ _ => ?_)
    have c3 := H.cap31 ok
    refine ⟨⟨by omega, by omega⟩, ⟨fun _ => by omega, fun h1 => ?_⟩⟩
    rw [H.2.1, H.2.2.2.1, H.2.2.2.2.2.2 i (by omega)]
    rw [seg_cons (by omega), List.foldl_cons] at k
    rw [seg_cons (by omega), List.all_cons, Bool.and_eq_true] at hs
    have y1 := of_decide_eq_true hs.1
    obtain ⟨t1, t2⟩ := ten18 c (by omega)
    refine ⟨⟨by omega, by omega⟩, H.1, H.2.2.1, by omega, by omega, fun _ => ⟨⟨by omega, by omega⟩, ⟨by omega, by omega⟩, ⟨by omega, by omega⟩, ?_⟩⟩
    exact ih (i + 1) (c + 1) _ (by omega) (by omega) hl (by omega) (by omega) (by omega) hs.2 H k
theorem s7_digitsAt {f n : Int} (hn : n ≤ 18) (H : isRow h r cap l) (k : Q (.inl (some (jL (if digB l f n = true then numOf (seg l f.toNat n.toNat) else -1)))) h) : jCall (d + 1) mX7_digitsAt [jR r, jI f, jI n] h Q := by
  refine bX7_digitsAt (fun ok _ _ => ⟨H.1, s7_areDigits H ⟨_, rfl, fun h0 => ?_, fun h0 => ?_⟩⟩)
  · have hd := (b2i_ne _).mp h0
    rw [if_pos hd] at k
    unfold digB at hd
    rw [Bool.and_eq_true, decide_eq_true_eq] at hd
    obtain ⟨⟨z1, z0, z2⟩, z3⟩ := hd
    have := s7_digitsAt_loop (d := d) (Q := Q) (h := h) (r := r) (cap := cap) (l := l) (f := f.toNat) (n0 := n.toNat) n.toNat f.toNat 0 0 (by omega) (by omega) (by omega) (by omega) (by omega) (by decide) z3 H k
    rw [Int.toNat_of_nonneg z1, Int.toNat_of_nonneg z0] at this
    exact this
  · rw [if_neg (by rw [(b2i_eq _).mp h0]; decide)] at k
    exact k
theorem ckr_rg : ∀ (s : List Int) (w : Int), s.all isD = true → 1 ≤ w → w ≤ 3 → 0 ≤ ckr w s ∧ ckr w s ≤ 27 * s.length
  | [], _, _, _, _ => by simp [ckr]
  | c :: t, w, hs, h1, h2 => by
    rw [List.all_cons, Bool.and_eq_true] at hs
    have y1 := of_decide_eq_true hs.1
    obtain ⟨i1, i2⟩ := ckr_rg t (4 - w) hs.2 (by omega) (by omega)
    have m1 : 0 ≤ (c - 48) * w := Int.mul_nonneg (by omega) (by omega)
    have m2 : (c - 48) * w ≤ 9 * 3 := Int.mul_le_mul (by omega) h2 (by omega) (by omega)
    simp only [ckr, List.length_cons]
    omega
theorem s7_checkDigit_loop {f : Nat} (n : Nat) : ∀ (i a w : Int), i = f + n - 1 → f + n ≤ l.length → (w = 1 ∨ w = 3) → 0 ≤ a → a + 27 * n < 2000000000 → (seg l f n).all isD = true → isRow h r cap l → Q (.inl (some (jI ((10 - (a + ckr w (seg l f n).reverse) % 10) % 10)))) h → jWp (d + 1) mX7_checkDigit 23 [(0, jR r), (1, jI f), (3, jI a), (4, jI w), (5, jI i)] [] h Q := by
  induction n with
  | zero =>
    intro i a w hi hl hw ha hb hs H k
    refine bX7_checkDigit_23 (fun ok _ _ _ _ => ⟨fun h0 => ?_, fun h0 => by omega⟩)
    rw [seg_zero] at k
    simp only [List.reverse_nil, ckr, Int.add_zero] at k
    exact ⟨ha, ⟨by omega, by omega⟩, by omega, k⟩
  | succ n ih =>
    intro i a w hi hl hw ha hb hs H k
    have c1 := H.2.2.2.2.2.1
    have e : seg l f (n + 1) = seg l f n ++ [l.getD (f + n) 0] := by
      unfold seg
      rw [List.take_add_one, List.getElem?_drop, List.getElem?_eq_getElem (by omega), List.getD_eq_getElem?_getD, List.getElem?_eq_getElem (by omega)]
      rfl
    rw [e, List.all_append, Bool.and_eq_true] at hs
    have y0 := hs.2
    rw [List.all_cons, Bool.and_eq_true] at y0
    have y1 := of_decide_eq_true y0.1
    refine bX7_checkDigit_23 (fun ok _ _ _ _ => ⟨fun h0 => by omega, fun h0 => ?_⟩)
    have c3 := H.cap31 ok
    rw [H.2.1, H.2.2.2.1, H.get (by omega) (by omega), show i.toNat = f + n by omega]
    have m1 : 0 ≤ (l.getD (f + n) 0 - 48) * w := Int.mul_nonneg (by omega) (by omega)
    have m2 : (l.getD (f + n) 0 - 48) * w ≤ 9 * 3 := Int.mul_le_mul (by omega) (by omega) (by omega) (by omega)
    refine ⟨H.1, H.2.2.1, by omega, by omega, fun _ => ⟨⟨by omega, by omega⟩, ⟨by omega, by omega⟩, ⟨by omega, by omega⟩, ⟨by omega, by omega⟩, ⟨by omega, by omega⟩, ?_⟩⟩
    refine ih _ _ _ (by omega) (by omega) (by omega) (by omega) (by omega) hs.1 H ?_
    rw [e, List.reverse_append, List.reverse_cons, List.reverse_nil, List.nil_append, List.singleton_append, ckr] at k
    rw [Int.add_assoc]
    exact k
theorem s7_checkDigit {f n : Int} (hn : n ≤ 1000) (hf : f < 1000000) (H : isRow h r cap l) (k : Q (.inl (some (jI (if digB l f n = true then ckOf (seg l f.toNat n.toNat) else -1)))) h) : jCall (d + 1) mX7_checkDigit [jR r, jI f, jI n] h Q := by
  refine bX7_checkDigit (fun ok _ _ => ⟨H.1, s7_areDigits H ⟨_, rfl, fun h0 => ?_, fun h0 => ?_⟩⟩)
  · have hd := (b2i_ne _).mp h0
    rw [if_pos hd] at k
    unfold digB at hd
    rw [Bool.and_eq_true, decide_eq_true_eq] at hd
    obtain ⟨⟨z1, z0, z2⟩, z3⟩ := hd
    have := s7_checkDigit_loop (d := d) (Q := Q) (h := h) (r := r) (cap := cap) (l := l) (f := f.toNat) n.toNat (f + n - 1) 0 3 (by omega) (by omega) (by omega) (by omega) (by omega) z3 H (by rw [Int.zero_add]; exact k)
    rw [Int.toNat_of_nonneg z1] at this
    exact ⟨⟨by omega, by omega⟩, ⟨by omega, by omega⟩, this⟩
  · rw [if_neg (by rw [(b2i_eq _).mp h0]; decide)] at k
    exact k
end R2
