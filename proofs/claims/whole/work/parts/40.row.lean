/-! READS OVER WRITES -/
theorem hI_sI (h : jH) (f o : Nat) (v : Int) (g p : Nat) : hI (sI h f o v) g p = if g = f ∧ p = o then v else hI h g p := rfl
theorem hI_sR (h : jH) (f o v : Nat) : hI (sR h f o v) = hI h := rfl
theorem hI_sA (h : jH) (a : Nat) (i v : Int) : hI (sA h a i v) = hI h := rfl
theorem hI_sQ (h : jH) (a : Nat) (i : Int) (v : Nat) : hI (sQ h a i v) = hI h := rfl
theorem hI_sF (h : jH) (a : Nat) (f : Int → Int) : hI (sF h a f) = hI h := rfl
theorem hR_sI (h : jH) (f o : Nat) (v : Int) : hR (sI h f o v) = hR h := rfl
theorem hR_sR (h : jH) (f o v : Nat) (g p : Nat) : hR (sR h f o v) g p = if g = f ∧ p = o then v else hR h g p := rfl
theorem hR_sA (h : jH) (a : Nat) (i v : Int) : hR (sA h a i v) = hR h := rfl
theorem hR_sQ (h : jH) (a : Nat) (i : Int) (v : Nat) : hR (sQ h a i v) = hR h := rfl
theorem hR_sF (h : jH) (a : Nat) (f : Int → Int) : hR (sF h a f) = hR h := rfl
theorem hA_sI (h : jH) (f o : Nat) (v : Int) : hA (sI h f o v) = hA h := rfl
theorem hA_sR (h : jH) (f o v : Nat) : hA (sR h f o v) = hA h := rfl
theorem hA_sA (h : jH) (a : Nat) (i v : Int) (b : Nat) (j : Int) : hA (sA h a i v) b j = if b = a ∧ j = i then v else hA h b j := rfl
theorem hA_sQ (h : jH) (a : Nat) (i : Int) (v : Nat) : hA (sQ h a i v) = hA h := rfl
theorem hA_sF (h : jH) (a : Nat) (f : Int → Int) (b : Nat) (j : Int) : hA (sF h a f) b j = if b = a then f j else hA h b j := by
  show j1 (hA h) a f b j = _
  unfold j1
  split <;> rfl
theorem hQ_sI (h : jH) (f o : Nat) (v : Int) : hQ (sI h f o v) = hQ h := rfl
theorem hQ_sR (h : jH) (f o v : Nat) : hQ (sR h f o v) = hQ h := rfl
theorem hQ_sA (h : jH) (a : Nat) (i v : Int) : hQ (sA h a i v) = hQ h := rfl
theorem hQ_sQ (h : jH) (a : Nat) (i : Int) (v : Nat) (b : Nat) (j : Int) : hQ (sQ h a i v) b j = if b = a ∧ j = i then v else hQ h b j := rfl
theorem hQ_sF (h : jH) (a : Nat) (f : Int → Int) : hQ (sF h a f) = hQ h := rfl
theorem hK_sI (h : jH) (f o : Nat) (v : Int) : hK (sI h f o v) = hK h := rfl
theorem hK_sR (h : jH) (f o v : Nat) : hK (sR h f o v) = hK h := rfl
theorem hK_sA (h : jH) (a : Nat) (i v : Int) : hK (sA h a i v) = hK h := rfl
theorem hK_sQ (h : jH) (a : Nat) (i : Int) (v : Nat) : hK (sQ h a i v) = hK h := rfl
theorem hK_sF (h : jH) (a : Nat) (f : Int → Int) : hK (sF h a f) = hK h := rfl
theorem hN_sI (h : jH) (f o : Nat) (v : Int) : hN (sI h f o v) = hN h := rfl
theorem hN_sR (h : jH) (f o v : Nat) : hN (sR h f o v) = hN h := rfl
theorem hN_sA (h : jH) (a : Nat) (i v : Int) : hN (sA h a i v) = hN h := rfl
theorem hN_sQ (h : jH) (a : Nat) (i : Int) (v : Nat) : hN (sQ h a i v) = hN h := rfl
theorem hN_sF (h : jH) (a : Nat) (f : Int → Int) : hN (sF h a f) = hN h := rfl
theorem hS_sI (h : jH) (f o : Nat) (v : Int) : hS (sI h f o v) = hS h := rfl
theorem hS_sR (h : jH) (f o v : Nat) : hS (sR h f o v) = hS h := rfl
theorem hS_sA (h : jH) (a : Nat) (i v : Int) : hS (sA h a i v) = hS h := rfl
theorem hS_sQ (h : jH) (a : Nat) (i : Int) (v : Nat) : hS (sQ h a i v) = hS h := rfl
theorem hS_sF (h : jH) (a : Nat) (f : Int → Int) : hS (sF h a f) = hS h := rfl
theorem hT_sI (h : jH) (f o : Nat) (v : Int) : hT (sI h f o v) = hT h := rfl
theorem hT_sR (h : jH) (f o v : Nat) : hT (sR h f o v) = hT h := rfl
theorem hT_sA (h : jH) (a : Nat) (i v : Int) : hT (sA h a i v) = hT h := rfl
theorem hT_sQ (h : jH) (a : Nat) (i : Int) (v : Nat) : hT (sQ h a i v) = hT h := rfl
theorem hT_sF (h : jH) (a : Nat) (f : Int → Int) : hT (sF h a f) = hT h := rfl
/-! FRAMES: numbers change between a and b alone -/
def jFI (a b : Nat) (h h' : jH) : Prop := hR h' = hR h ∧ hQ h' = hQ h ∧ hK h' = hK h ∧ hN h' = hN h ∧ hS h' = hS h ∧ hT h' = hT h ∧ ∀ o, ¬ (a ≤ o ∧ o < b) → (∀ f, hI h' f o = hI h f o) ∧ ∀ i, hA h' o i = hA h o i
theorem jFI.rfl {a b : Nat} {h : jH} : jFI a b h h := ⟨.refl _, .refl _, .refl _, .refl _, .refl _, .refl _, fun _ _ => ⟨fun _ => .refl _, fun _ => .refl _⟩⟩
theorem jFI.trans {a b : Nat} {h h1 h2 : jH} (p : jFI a b h h1) (q : jFI a b h1 h2) : jFI a b h h2 := by
  obtain ⟨p1, p2, p3, p4, p5, p6, p7⟩ := p
  obtain ⟨q1, q2, q3, q4, q5, q6, q7⟩ := q
  exact ⟨q1.trans p1, q2.trans p2, q3.trans p3, q4.trans p4, q5.trans p5, q6.trans p6, fun o ho => ⟨fun f => ((q7 o ho).1 f).trans ((p7 o ho).1 f), fun i => ((q7 o ho).2 i).trans ((p7 o ho).2 i)⟩⟩
theorem jFI.mono {a b a' b' : Nat} {h h1 : jH} (p : jFI a b h h1) (h1' : a' ≤ a) (h2' : b ≤ b') : jFI a' b' h h1 := by
  obtain ⟨p1, p2, p3, p4, p5, p6, p7⟩ := p
  exact ⟨p1, p2, p3, p4, p5, p6, fun o ho => p7 o (fun z => ho ⟨by omega, by omega⟩)⟩
/-! ROWS -/
def b2i (b : Bool) : Int := if b then 1 else 0
theorem b2i_rg (b : Bool) : 0 ≤ b2i b ∧ b2i b ≤ 1 := by cases b <;> decide
theorem b2i_ne (b : Bool) : b2i b ≠ 0 ↔ b = true := by cases b <;> decide
theorem b2i_eq (b : Bool) : b2i b = 0 ↔ b = false := by cases b <;> decide
def lAt (l : List Int) (i : Int) : Int := if 0 ≤ i ∧ i < l.length then l.getD i.toNat 0 else -1
def isRow (h : jH) (r : Nat) (cap : Nat) (l : List Int) : Prop := hK h r = 6 ∧ hR h 500 r = r + 1 ∧ hK h (r + 1) = 10 ∧ hN h (r + 1) = cap ∧ hI h 501 r = l.length ∧ l.length ≤ cap ∧ ∀ i : Nat, i < l.length → hA h (r + 1) (i : Int) = l.getD i 0
theorem jFI.row {a b : Nat} {h h1 : jH} (p : jFI a b h h1) {r cap : Nat} {l : List Int} (q : isRow h r cap l) (hd : r + 2 ≤ a ∨ b ≤ r) : isRow h1 r cap l := by
  obtain ⟨p1, p2, p3, p4, p5, p6, p7⟩ := p
  obtain ⟨q1, q2, q3, q4, q5, q6, q7⟩ := q
  refine ⟨by rw [p3]; exact q1, by rw [p1]; exact q2, by rw [p3]; exact q3, by rw [p4]; exact q4, by rw [(p7 r (by omega)).1]; exact q5, q6, fun i hi => by rw [(p7 (r + 1) (by omega)).2]; exact q7 i hi⟩
section RW
variable {d : Nat} {h : jH} {Q : jO → jH → Prop} {r cap : Nat} {l : List Int}
theorem isRow.get (H : isRow h r cap l) {i : Int} (h0 : 0 ≤ i) (h1 : i < l.length) : hA h (r + 1) i = l.getD i.toNat 0 := by
  have := H.2.2.2.2.2.2 i.toNat (by omega)
  rw [← this]
  congr 1
  omega
theorem isRow.cap31 (ok : jOK h) (H : isRow h r cap l) : cap < 2147483648 := by
  have := ok.2.2.2.2 (r + 1)
  rw [H.2.2.2.1] at this
  omega
theorem s7_count (H : isRow h r cap l) (k : Q (.inl (some (jI l.length))) h) : jCall d mX7_count [jR r] h Q := by
  refine bX7_count (fun _ => ⟨H.1, fun _ => ?_⟩)
  rw [H.2.2.2.2.1]
  exact k
theorem s7_at {i : Int} (H : isRow h r cap l) (k : Q (.inl (some (jI (lAt l i)))) h) : jCall d mX7_at [jR r, jI i] h Q := by
  have k' : ∀ v, v = lAt l i → Q (.inl (some (jI v))) h := fun v e => e ▸ k
  obtain ⟨q1, q2, q3, q4, q5, q6, q7⟩ := id H
  refine bX7_at (fun _ _ => ⟨fun h0 => k' _ ?_, fun h0 => ⟨q1, fun _ => ⟨fun h1 => ?_, fun h1 => k' _ ?_⟩⟩⟩)
  · unfold lAt; rw [if_neg (by omega)]
  · rw [q2, q3, q4]
    refine ⟨.refl _, by omega, by omega, fun _ => k' _ ?_⟩
    unfold lAt; rw [if_pos (by omega)]
    exact H.get (by omega) (by omega)
  · unfold lAt; rw [if_neg (by omega)]
def lput (cap : Nat) (l : List Int) (v : Int) : List Int := if l.length < cap then l ++ [v] else l
theorem isRow.put (H : isRow h r cap l) (hl : l.length < cap) (v : Int) : isRow (sI (sA h (r + 1) l.length v) 501 r (l.length + 1)) r cap (l ++ [v]) := by
  obtain ⟨q1, q2, q3, q4, q5, q6, q7⟩ := H
  refine ⟨q1, q2, q3, q4, by simp [hI_sI], by simp; omega, fun i hi => ?_⟩
  rw [hA_sI, hA_sA]
  by_cases e : i = l.length
  · rw [if_pos ⟨.refl _, by omega⟩, e]
    simp
  · simp at hi
    rw [if_neg (by omega), q7 i (by omega), List.getD_eq_getElem?_getD, List.getD_eq_getElem?_getD, List.getElem?_append_left (by omega)]
theorem jFI_put (h : jH) (r : Nat) (i v w : Int) : jFI r (r + 2) h (sI (sA h (r + 1) i v) 501 r w) :=
  ⟨.refl _, .refl _, .refl _, .refl _, .refl _, .refl _, fun o ho => ⟨fun f => by rw [hI_sI, if_neg (by omega), hI_sA], fun i => by rw [hA_sI, hA_sA, if_neg (by omega)]⟩⟩
theorem s7_put {v : Int} (H : isRow h r cap l) (k : ∀ h', jFI r (r + 2) h h' → isRow h' r cap (lput cap l v) → Q (.inl none) h') : jCall d mX7_put [jR r, jI v] h Q := by
  obtain ⟨q1, q2, q3, q4, q5, q6, q7⟩ := id H
  refine bX7_put (fun ok _ => ⟨q1, fun _ => ⟨by rw [q2]; exact q3, fun _ => ⟨fun h1 => ?_, fun h1 => ?_⟩⟩⟩)
  · rw [q2, q4, q5] at h1
    refine k h .rfl ?_
    unfold lput
    rw [if_neg (by omega)]
    exact H
  · rw [q2, q4, q5] at h1
    have := H.cap31 ok
    rw [q2, q4, q5]
    refine ⟨by omega, by omega, ⟨by omega, by omega⟩, k _ (jFI_put h r _ _ _) ?_⟩
    unfold lput
    rw [if_pos (by omega)]
    exact H.put (by omega) v
theorem s7_clear (H : isRow h r cap l) (k : ∀ h', jFI r (r + 2) h h' → isRow h' r cap [] → Q (.inl none) h') : jCall d mX7_clear [jR r] h Q := by
  obtain ⟨q1, q2, q3, q4, q5, q6, q7⟩ := id H
  refine bX7_clear (fun ok => ⟨q1, k _ ⟨.refl _, .refl _, .refl _, .refl _, .refl _, .refl _, fun o ho => ⟨fun f => by rw [hI_sI, if_neg (by omega)], fun i => .refl _⟩⟩ ?_⟩)
  exact ⟨q1, q2, q3, q4, by simp [hI_sI], by simp, fun i hi => by simp at hi⟩
theorem s7_shorten {n : Int} (H : isRow h r cap l) (k0 : (n < 0 ∨ l.length < n) → Q (.inl (some (jI 0))) h) (k1 : 0 ≤ n → n ≤ l.length → ∀ h', jFI r (r + 2) h h' → isRow h' r cap (l.take n.toNat) → Q (.inl (some (jI 1))) h') : jCall d mX7_shorten [jR r, jI n] h Q := by
  obtain ⟨q1, q2, q3, q4, q5, q6, q7⟩ := id H
  refine bX7_shorten (fun ok _ => ⟨fun h0 => k0 (by omega), fun h0 => ⟨q1, fun _ => ⟨fun h1 => k1 (by omega) (by omega) _ ⟨.refl _, .refl _, .refl _, .refl _, .refl _, .refl _, fun o ho => ⟨fun f => by rw [hI_sI, if_neg (by omega)], fun i => .refl _⟩⟩ ?_, fun h1 => k0 (by omega)⟩⟩⟩)
  refine ⟨q1, q2, q3, q4, ?_, by simp; omega, fun i hi => ?_⟩
  · rw [hI_sI, if_pos ⟨.refl _, .refl _⟩]
    simp
    omega
  · simp at hi
    rw [hA_sI, q7 i (by omega), List.getD_eq_getElem?_getD, List.getD_eq_getElem?_getD, List.getElem?_take, if_pos (by omega)]
theorem s7_replace {i v : Int} (H : isRow h r cap l) (k0 : (i < 0 ∨ l.length ≤ i) → Q (.inl (some (jI (-1)))) h) (k1 : 0 ≤ i → i < l.length → ∀ h', jFI r (r + 2) h h' → isRow h' r cap (l.set i.toNat v) → Q (.inl (some (jI (l.getD i.toNat 0)))) h') : jCall d mX7_replace [jR r, jI i, jI v] h Q := by
  obtain ⟨q1, q2, q3, q4, q5, q6, q7⟩ := id H
  refine bX7_replace (fun ok _ _ => ⟨fun h0 => k0 (by omega), fun h0 => ⟨q1, fun _ => ⟨fun h1 => ?_, fun h1 => k0 (by omega)⟩⟩⟩)
  rw [q2, q3, q4]
  refine ⟨.refl _, by omega, by omega, fun _ => ?_⟩
  rw [H.get (by omega) (by omega)]
  refine k1 (by omega) (by omega) _ ⟨.refl _, .refl _, .refl _, .refl _, .refl _, .refl _, fun o ho => ⟨fun f => .refl _, fun i => by rw [hA_sA, if_neg (by omega)]⟩⟩ ?_
  refine ⟨q1, q2, q3, q4, (by show hI h 501 r = _; simpa using q5), by simpa using q6, fun j hj => ?_⟩
  simp at hj
  rw [hA_sA, List.getD_eq_getElem?_getD, List.getElem?_set]
  by_cases e : i.toNat = j
  · rw [if_pos ⟨.refl _, by omega⟩, if_pos e, if_pos (by omega)]
    rfl
  · rw [if_neg (by omega), if_neg e, q7 j (by omega), List.getD_eq_getElem?_getD]
theorem s9_max {a b : Int} (k : Q (.inl (some (jI (max a b)))) h) : jCall d mJ9_max_7cf53 [jI a, jI b] h Q :=
  bJ9_max_7cf53 (fun _ _ _ => ⟨fun h0 => by rw [show max a b = b by omega] at k; exact k, fun h0 => by rw [show max a b = a by omega] at k; exact k⟩)
theorem s9_min {a b : Int} (k : Q (.inl (some (jI (min a b)))) h) : jCall d mJ9_min_7cf53 [jI a, jI b] h Q :=
  bJ9_min_7cf53 (fun _ _ _ => ⟨fun h0 => by rw [show min a b = b by omega] at k; exact k, fun h0 => by rw [show min a b = a by omega] at k; exact k⟩)
theorem s9_floorMod {a b : Int} (hb : 0 < b) (k : Q (.inl (some (jI (a % b)))) h) : jCall d mJ9_floorMod_7cf53 [jI a, jI b] h Q := by
  have k' : ∀ v, v = a % b → Q (.inl (some (jI v))) h := fun v e => e ▸ k
  have e1 : a % b = if 0 ≤ a ∨ b ∣ a then a.tmod b else a.tmod b + b := by
    have := Int.tmod_eq_emod (a := a) (b := b)
    by_cases z : 0 ≤ a ∨ b ∣ a
    · rw [if_pos z, this, if_pos z]; omega
    · rw [if_neg z, this, if_neg z]; omega
  have e2 := Int.tmod_lt_of_pos a hb
  have e3 : 0 ≤ a → 0 ≤ a.tmod b := fun z => Int.tmod_nonneg b z
  have e4 : a.tmod b = 0 ↔ b ∣ a := ⟨fun z => Int.dvd_of_tmod_eq_zero z, fun z => Int.tmod_eq_zero_of_dvd z⟩
  have e5 : a < 0 → -b < a.tmod b := fun z => by have := Int.lt_tmod_of_pos a hb; omega
  refine bJ9_floorMod_7cf53 (fun _ ra rb => ⟨hb, fun w hw => ⟨fun h0 => k' _ ?_, fun h0 => ⟨fun h1 => k' _ ?_, fun h1 => ⟨?_, k' _ ?_⟩⟩⟩⟩)
  · rw [e1, if_pos (Or.inl (by omega))]
  · rw [e1, if_pos (Or.inr (e4.mp h1))]
  · have : a < 0 := by omega
    have := e5 this
    simp only [j32] at *
    have e6 := Int.emod_lt_of_pos a hb
    rw [e1, if_neg (by rw [← e4]; omega)] at e6
    omega
  · rw [e1, if_neg (by rw [← e4]; omega)]
end RW
