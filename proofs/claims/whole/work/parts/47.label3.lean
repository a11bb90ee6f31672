/-! LABELS: the fixed ones ahead -/
/-- a frame: nothing changes but between a and b -/
def jFr (a b : Nat) (h h' : jH) : Prop := hK h' = hK h ∧ hN h' = hN h ∧ hS h' = hS h ∧ hT h' = hT h ∧ ∀ o, ¬ (a ≤ o ∧ o < b) → (∀ f, hI h' f o = hI h f o ∧ hR h' f o = hR h f o) ∧ ∀ i, hA h' o i = hA h o i ∧ hQ h' o i = hQ h o i
theorem jFr.rfl {a b : Nat} {h : jH} : jFr a b h h := ⟨.refl _, .refl _, .refl _, .refl _, fun _ _ => ⟨fun _ => ⟨.refl _, .refl _⟩, fun _ => ⟨.refl _, .refl _⟩⟩⟩
theorem jFr.trans {a b : Nat} {h h1 h2 : jH} (p : jFr a b h h1) (q : jFr a b h1 h2) : jFr a b h h2 := by
  obtain ⟨p3, p4, p5, p6, p7⟩ := p
  obtain ⟨q3, q4, q5, q6, q7⟩ := q
  exact ⟨q3.trans p3, q4.trans p4, q5.trans p5, q6.trans p6, fun o ho => ⟨fun f => ⟨((q7 o ho).1 f).1.trans ((p7 o ho).1 f).1, ((q7 o ho).1 f).2.trans ((p7 o ho).1 f).2⟩, fun i => ⟨((q7 o ho).2 i).1.trans ((p7 o ho).2 i).1, ((q7 o ho).2 i).2.trans ((p7 o ho).2 i).2⟩⟩⟩
theorem jFr.mono {a b a' b' : Nat} {h h1 : jH} (p : jFr a b h h1) (h1' : a' ≤ a) (h2' : b ≤ b') : jFr a' b' h h1 := by
  obtain ⟨p3, p4, p5, p6, p7⟩ := p
  exact ⟨p3, p4, p5, p6, fun o ho => p7 o (fun z => ho ⟨by omega, by omega⟩)⟩
theorem jFI.fr {a b : Nat} {h h1 : jH} (p : jFI a b h h1) : jFr a b h h1 := by
  obtain ⟨p1, p2, p3, p4, p5, p6, p7⟩ := p
  exact ⟨p3, p4, p5, p6, fun o ho => ⟨fun f => ⟨(p7 o ho).1 f, by rw [p1]⟩, fun i => ⟨(p7 o ho).2 i, by rw [p2]⟩⟩⟩
theorem jFr.row {a b : Nat} {h h1 : jH} (p : jFr a b h h1) {r cap : Nat} {l : List Int} (q : isRow h r cap l) (hd : r + 2 ≤ a ∨ b ≤ r) : isRow h1 r cap l := by
  obtain ⟨p3, p4, p5, p6, p7⟩ := p
  obtain ⟨q1, q2, q3, q4, q5, q6, q7⟩ := q
  exact ⟨by rw [p3]; exact q1, by rw [((p7 r (by omega)).1 500).2]; exact q2, by rw [p3]; exact q3, by rw [p4]; exact q4, by rw [((p7 r (by omega)).1 501).1]; exact q5, q6, fun i hi => by rw [((p7 (r + 1) (by omega)).2 i).1]; exact q7 i hi⟩
theorem jFr.sh {a b : Nat} {h h1 : jH} (p : jFr a b h h1) {e : Nat} (q : shEl h e) (hd : e + 3 ≤ a ∨ b ≤ e) : shEl h1 e := by
  obtain ⟨q1, q2, l, q3⟩ := q
  have r := p.row q3 (by omega)
  obtain ⟨p3, p4, p5, p6, p7⟩ := p
  exact ⟨by rw [p3]; exact q1, by rw [((p7 e (by omega)).1 200).2]; exact q2, l, r⟩
theorem jFr.el {a b : Nat} {h h1 : jH} (p : jFr a b h h1) {e : Nat} {x : jE} (q : isEl h e x) (hd : e + 3 ≤ a ∨ b ≤ e) : isEl h1 e x := by
  obtain ⟨q1, q2, q3, q4, q5, q6, q7, q8, q9⟩ := q
  have r := p.row q3 (by omega)
  obtain ⟨p3, p4, p5, p6, p7⟩ := p
  have w := fun f => ((p7 e (by omega)).1 f).1
  exact ⟨by rw [p3]; exact q1, by rw [((p7 e (by omega)).1 200).2]; exact q2, r, by rw [w]; exact q4, by rw [w]; exact q5, by rw [w]; exact q6, by rw [w]; exact q7, by rw [w]; exact q8, q9⟩
theorem jFr_elV {a b : Nat} {h h1 : jH} (p : jFr a b h h1) {L : Nat} (hd : ¬ (a ≤ L + 1 ∧ L + 1 < b)) (k : Nat) : elV h1 L k = elV h L k := ((p.2.2.2.2 (L + 1) hd).2 (k : Int)).2
theorem jFr.labSh {a b : Nat} {h h1 : jH} {L : Nat} (p : jFr a b h h1) (H : labSh h L) (hd : L + 63 ≤ a ∨ b ≤ L ∨ (L + 2 ≤ a ∧ b ≤ L + 3)) : labSh h1 L := by
  obtain ⟨q1, q2, q3, q4, q5, q6, q7, q8, q9, q10⟩ := H
  have e := jFr_elV p (L := L) (by omega)
  have s := fun (j : Nat) (hj : j < 20) => p.sh (q10 j hj) (by omega)
  obtain ⟨p3, p4, p5, p6, p7⟩ := p
  have w := fun f => ((p7 L (by omega)).1 f).2
  exact ⟨by rw [p3]; exact q1, by rw [w]; exact q2, by rw [w]; exact q3, by rw [p3]; exact q4, by rw [p3]; exact q5, by rw [p4]; exact q6, by rw [p4]; exact q7, fun k hk => by rw [e]; exact q8 k hk, fun i hi j hj y => q9 i hi j hj (by rw [← e, ← e]; exact y), s⟩
theorem jFr.lab {a b : Nat} {h h1 : jH} {L : Nat} {es : List jE} (p : jFr a b h h1) (H : isLab h L es) (hd : L + 63 ≤ a ∨ b ≤ L ∨ (L + 2 ≤ a ∧ b ≤ L + 3)) : isLab h1 L es := by
  obtain ⟨q1, q2, q3, q4⟩ := H
  refine ⟨p.labSh q1 hd, by rw [((p.2.2.2.2 L (by omega)).1 402).1]; exact q2, q3, fun k hk => ?_⟩
  rw [jFr_elV p (by omega)]
  have := q1.rg (k := k) (by omega)
  exact p.el (q4 k hk) (by omega)
theorem jFr_Q (h : jH) (o : Nat) (i : Int) (v : Nat) : jFr o (o + 1) h (sQ h o i v) := ⟨.refl _, .refl _, .refl _, .refl _, fun p hp => ⟨fun f => ⟨.refl _, .refl _⟩, fun j => ⟨.refl _, by rw [hQ_sQ, if_neg (by omega)]⟩⟩⟩
def movF (g : Nat → Bool) : Nat → Nat → Nat → Int
  | 0, _, _ => 0
  | n + 1, k, p => if g k = true then (if p = k then 0 else 1) + movF g n (k + 1) (p + 1) else movF g n (k + 1) p
theorem movF_rg (g : Nat → Bool) : ∀ n k p, 0 ≤ movF g n k p ∧ movF g n k p ≤ n
  | 0, k, p => by simp [movF]
  | n + 1, k, p => by
    have a := movF_rg g n (k + 1) (p + 1)
    have b := movF_rg g n (k + 1) p
    unfold movF
    split
    · split <;> omega
    · omega
/-- of the heap h0 alone the row of the arranged ones has changed: it begins with these -/
def jFA (h0 h : jH) (L : Nat) (I : List Nat) : Prop := jFr (L + 2) (L + 3) h0 h ∧ ∀ j, j < I.length → hQ h (L + 2) (j : Int) = elV h0 L (I.getD j 0)
section F6
variable {d : Nat} {Q : jO → jH → Prop} {L : Nat} {es : List jE} {h0 : jH}
theorem s6_fixed14 (H : isLab h0 L es) {v : Nat} (hv : v < 2) (n : Nat) : ∀ (k : Nat) (mv : Int) (h : jH) (I : List Nat), k + n = es.length → I.length + ((List.range' k n).filter (fun i => fixE (es.getD i dE) == (v == 0))).length ≤ 20 → 0 ≤ mv → mv + n ≤ 1000 → jFA h0 h L I →
    (∀ h', jFA h0 h' L (I ++ (List.range' k n).filter (fun i => fixE (es.getD i dE) == (v == 0))) → jWp (d + 2) mX6_fixedAhead 6 [(0, jR L), (1, jI (I ++ (List.range' k n).filter (fun i => fixE (es.getD i dE) == (v == 0))).length), (2, jI (mv + movF (fun i => fixE (es.getD i dE) == (v == 0)) n k I.length)), (3, jI ((v : Int) + 1))] [] h' Q) →
    jWp (d + 2) mX6_fixedAhead 14 [(0, jR L), (1, jI I.length), (2, jI mv), (3, jI v), (4, jI k)] [] h Q := by
  have q := H.2.2.1
  induction n with
  | zero =>
    intro k mv h I hn hL0 h0' h1 F kk
    have Hh := F.1.lab H (by omega)
    refine bX6_fixedAhead_14 (fun _ _ _ _ _ => ⟨Hh.1.1, fun _ => ⟨fun _ => ⟨⟨by omega, by omega⟩, ?_⟩, fun z => ?_⟩⟩)
    · simp only [List.range'_zero, List.filter_nil, List.append_nil, movF, Int.add_zero] at kk
      exact kk h F
    · rw [Hh.2.1] at z
      omega
  | succ n ih =>
    intro k mv h I hn hL0 h0' h1 F kk
    have Hh := F.1.lab H (by omega)
    have he := Hh.2.2.2 k (by omega)
    have ek : elV h L k = elV h0 L k := jFr_elV F.1 (by omega) k
    have skip : (fixE (es.getD k dE) == (v == 0)) = false → j32 ((k : Int) + 1) ∧ jWp (d + 2) mX6_fixedAhead 14 [(0, jR L), (1, jI I.length), (2, jI mv), (3, jI v), (4, jI ((k : Int) + 1))] [] h Q := fun z => by
      refine ⟨⟨by omega, by omega⟩, ?_⟩
      rw [List.range'_succ, List.filter_cons_of_neg (p := fun i => fixE (es.getD i dE) == (v == 0)) (by rw [z]; decide)] at kk hL0
      simp only [movF, z] at kk
      exact ih (k + 1) mv h I (by omega) hL0 h0' (by omega) F kk
    have take : (fixE (es.getD k dE) == (v == 0)) = true → I.length < 20 ∧ ∀ c : Int, c = (if I.length = k then 0 else 1) → jWp (d + 2) mX6_fixedAhead 14 [(0, jR L), (1, jI ((I.length : Int) + 1)), (2, jI (mv + c)), (3, jI v), (4, jI ((k : Int) + 1))] [] (sQ h (L + 2) I.length (elV h L k)) Q := fun z => by
      rw [List.range'_succ, List.filter_cons_of_pos (p := fun i => fixE (es.getD i dE) == (v == 0)) z] at kk hL0
      simp only [List.length_cons] at hL0
      refine ⟨by omega, fun c hc => ?_⟩
      have F2 : jFA h0 (sQ h (L + 2) I.length (elV h L k)) L (I ++ [k]) := by
        refine ⟨F.1.trans ((jFr_Q h (L + 2) _ _).mono (by omega) (by omega)), fun j hj => ?_⟩
        rw [hQ_sQ, List.getD_eq_getElem?_getD]
        by_cases e : j = I.length
        · rw [if_pos ⟨.refl _, by omega⟩, e, List.getElem?_append_right (by omega), ek]
          simp
        · simp at hj
          rw [if_neg (by omega), List.getElem?_append_left (by omega), F.2 j (by omega), List.getD_eq_getElem?_getD]
      have := ih (k + 1) (mv + c) (sQ h (L + 2) I.length (elV h L k)) (I ++ [k]) (by omega) (by simp only [List.length_append, List.length_cons, List.length_nil]; omega) (by rw [hc]; split <;> omega) (by rw [hc]; split <;> omega) F2 (fun h' F' => ?_)
      · simpa using this
      · simp only [movF, z, if_true] at kk
        rw [List.append_assoc] at F' ⊢
        have := kk h' F'
        rw [← hc] at this
        simpa [Int.add_assoc] using this
    have fin : (fixE (es.getD k dE) == (v == 0)) = true → ∀ c : Int, c = (if I.length = k then 0 else 1) → j32 (mv + c) ∧ hK h L = 5 ∧ hK h (hR h 400 L) = 14 ∧ (0 : Int) ≤ k ∧ (k : Int) < hN h (hR h 400 L) ∧ hK h (hR h 401 L) = 14 ∧ (0 : Int) ≤ I.length ∧ (I.length : Int) < hN h (hR h 401 L) ∧ hK h (hQ h (hR h 400 L) k) = 3 ∧ j32 ((I.length : Int) + 1) ∧ j32 ((k : Int) + 1) ∧ jWp (d + 2) mX6_fixedAhead 14 [(0, jR L), (1, jI ((I.length : Int) + 1)), (2, jI (mv + c)), (3, jI v), (4, jI ((k : Int) + 1))] [] (sQ h (hR h 401 L) I.length (hQ h (hR h 400 L) k)) Q := fun z c hc => by
      obtain ⟨t1, t2⟩ := take z
      rw [Hh.1.2.1, Hh.1.2.2.1, Hh.1.2.2.2.2.2.1, Hh.1.2.2.2.2.2.2.1]
      have c2 : 0 ≤ c ∧ c ≤ 1 := by rw [hc]; split <;> omega
      exact ⟨⟨by omega, by omega⟩, Hh.1.1, Hh.1.2.2.2.1, by omega, by omega, Hh.1.2.2.2.2.1, by omega, by omega, he.1, ⟨by omega, by omega⟩, ⟨by omega, by omega⟩, t2 c hc⟩
    refine bX6_fixedAhead_14 (fun _ _ _ _ _ => ⟨Hh.1.1, fun _ => ⟨fun z => ?_, fun z => ?_⟩⟩)
    · rw [Hh.2.1] at z
      omega
    · rw [Hh.1.2.1, Hh.1.2.2.2.2.2.1]
      refine ⟨Hh.1.2.2.2.1, by omega, by omega, he.1, s4_isFixed he ⟨_, rfl, fun v0 => ⟨fun y => skip ?_, fun y => ⟨fun w => fin ?_ 1 ?_, fun w => fin ?_ 0 ?_⟩⟩, fun v0 => ⟨fun y => skip ?_, fun y => ⟨fun w => fin ?_ 1 ?_, fun w => fin ?_ 0 ?_⟩⟩⟩⟩
      · have e1 : (v == 0) = false := by simp; omega
        rw [e1, show fixE (es.getD k dE) = true from (b2i_ne _).mp y]; rfl
      · have e1 : (v == 0) = false := by simp; omega
        rw [e1, show fixE (es.getD k dE) = false from (b2i_eq _).mp y]; rfl
      · rw [if_neg (by omega)]
      · have e1 : (v == 0) = false := by simp; omega
        rw [e1, show fixE (es.getD k dE) = false from (b2i_eq _).mp y]; rfl
      · rw [if_pos (by omega)]
      · have e1 : (v == 0) = true := by simp; omega
        have : fixE (es.getD k dE) = false := by
          cases hh : fixE (es.getD k dE) with
          | false => rfl
          | true => exact absurd (show b2i (fixV _ _) = 1 by rw [show fixV (es.getD k dE).1 (es.getD k dE).2.1 = true from hh]; rfl) y
        rw [e1, this]; rfl
      · have e1 : (v == 0) = true := by simp; omega
        rw [e1, show fixE (es.getD k dE) = true from (b2i_ne (fixV _ _)).mp (by rw [y]; decide)]; rfl
      · rw [if_neg (by omega)]
      · have e1 : (v == 0) = true := by simp; omega
        rw [e1, show fixE (es.getD k dE) = true from (b2i_ne (fixV _ _)).mp (by rw [y]; decide)]; rfl
      · rw [if_pos (by omega)]
/-- the arranged ones come back into their row -/
theorem s6_fixed89 (H : isLab h0 L es) {I : List Nat} (hLe : I.length = es.length) (hlt : ∀ i ∈ I, i < es.length) {mv : Int} (n : Nat) : ∀ (j : Nat) (h : jH), j + n = es.length → jFr (L + 1) (L + 3) h0 h → (∀ i, i < I.length → hQ h (L + 2) (i : Int) = elV h0 L (I.getD i 0)) → (∀ i : Nat, i < 20 → elV h L i = if i < j then elV h0 L (I.getD i 0) else elV h0 L i) →
    (∀ h', jFr (L + 1) (L + 3) h0 h' → (∀ i : Nat, i < 20 → elV h' L i = if i < es.length then elV h0 L (I.getD i 0) else elV h0 L i) → Q (.inl (some (jI mv))) h') → jWp (d + 1) mX6_fixedAhead 89 [(0, jR L), (2, jI mv), (3, jI j)] [] h Q := by
  have q := H.2.2.1
  obtain ⟨q1, q2, q3, q4, q5, q6, q7, q8, q9, q10⟩ := H.1
  induction n with
  | zero =>
    intro j h hn F hA2 hE kk
    have F7 := F.2.2.2.2 L (by omega)
    refine bX6_fixedAhead_89 (fun _ _ _ => ⟨by rw [F.1]; exact q1, fun _ => ⟨fun _ => kk h F (fun i hi => by rw [hE i hi, ← hn]; rfl), fun z => ?_⟩⟩)
    rw [(F7.1 402).1, H.2.1] at z
    omega
  | succ n ih =>
    intro j h hn F hA2 hE kk
    have F7 := F.2.2.2.2 L (by omega)
    have r1 : hR h 400 L = L + 1 := by rw [(F7.1 400).2]; exact q2
    have r2 : hR h 401 L = L + 2 := by rw [(F7.1 401).2]; exact q3
    have hIj : I.getD j 0 < es.length := by
      rw [List.getD_eq_getElem?_getD, List.getElem?_eq_getElem (by omega)]
      exact hlt _ (List.getElem_mem _)
    refine bX6_fixedAhead_89 (fun _ _ _ => ⟨by rw [F.1]; exact q1, fun _ => ⟨fun z => ?_, fun z => ?_⟩⟩)
    · rw [(F7.1 402).1, H.2.1] at z
      omega
    · rw [r1, r2, F.1, F.2.1, hA2 j (by omega)]
      refine ⟨q5, by omega, by omega, q4, by omega, (H.2.2.2 _ hIj).1, ⟨by omega, by omega⟩, ?_⟩
      refine ih (j + 1) _ (by omega) (F.trans ((jFr_Q h (L + 1) _ _).mono (by omega) (by omega))) (fun i hi => by rw [hQ_sQ, if_neg (by omega)]; exact hA2 i hi) (fun i hi => ?_) kk
      unfold elV at hE ⊢
      rw [hQ_sQ]
      by_cases e : i = j
      · rw [if_pos ⟨.refl _, by omega⟩, if_pos (by omega), e]
      · rw [if_neg (by omega), hE i hi]
        by_cases e2 : i < j
        · rw [if_pos e2, if_pos (by omega)]
        · rw [if_neg e2, if_neg (by omega)]
def arrI (es : List jE) : List Nat := (List.range' 0 es.length).filter (fun i => fixE (es.getD i dE) == true) ++ (List.range' 0 es.length).filter (fun i => fixE (es.getD i dE) == false)
def arrE (es : List jE) : List jE := es.filter fixE ++ es.filter (fun x => !fixE x)
def arrM (es : List jE) : Int := movF (fun i => fixE (es.getD i dE) == true) es.length 0 0 + movF (fun i => fixE (es.getD i dE) == false) es.length 0 ((List.range' 0 es.length).filter (fun i => fixE (es.getD i dE) == true)).length
theorem arrI_map (es : List jE) (p : jE → Bool) (n : Nat) : ∀ k, k + n = es.length → ((List.range' k n).filter (fun i => p (es.getD i dE))).map (fun i => es.getD i dE) = (es.drop k).filter p := by
  induction n with
  | zero =>
    intro k hk
    rw [List.drop_eq_nil_of_le (by omega)]
    rfl
  | succ n ih =>
    intro k hk
    rw [List.range'_succ, dropE (by omega)]
    by_cases q : p (es.getD k dE) = true
    · rw [List.filter_cons_of_pos (p := fun i => p (es.getD i dE)) q, List.filter_cons_of_pos q, List.map_cons, ih (k + 1) (by omega)]
    · rw [List.filter_cons_of_neg (p := fun i => p (es.getD i dE)) q, List.filter_cons_of_neg q, ih (k + 1) (by omega)]
theorem arrI_perm (es : List jE) : (arrI es).Perm (List.range' 0 es.length) := by
  have := List.filter_append_perm (fun i => fixE (es.getD i dE) == true) (List.range' 0 es.length)
  unfold arrI
  have e : (fun i => fixE (es.getD i dE) == false) = (fun i => !(fixE (es.getD i dE) == true)) := by
    funext i
    cases fixE (es.getD i dE) <;> rfl
  rw [e]
  exact this
theorem arrI_es (es : List jE) : (arrI es).map (fun i => es.getD i dE) = arrE es := by
  unfold arrI arrE
  rw [List.map_append, arrI_map es (fun x => fixE x == true) es.length 0 (by omega), arrI_map es (fun x => fixE x == false) es.length 0 (by omega), List.drop_zero]
  congr 1
  · congr 1
    funext x
    cases fixE x <;> rfl
  · congr 1
    funext x
    cases fixE x <;> rfl
theorem s6_fixedAhead (H : isLab h0 L es) (k : ∀ h', jFr L (L + 63) h0 h' → isLab h' L (arrE es) → Q (.inl (some (jI (arrM es)))) h') : jCall (d + 2) mX6_fixedAhead [jR L] h0 Q := by
  have q := H.2.2.1
  have pm := arrI_perm es
  have ln : (arrI es).length = es.length := by rw [pm.length_eq, List.length_range']
  have hlt : ∀ i ∈ arrI es, i < es.length := fun i hi => by
    have := pm.mem_iff.mp hi
    rw [List.mem_range'_1] at this
    omega
  have nd : (arrI es).Nodup := pm.nodup_iff.mpr List.nodup_range'
  have le1 : ((List.range' 0 es.length).filter (fun i => fixE (es.getD i dE) == true)).length ≤ es.length := by
    have := List.length_filter_le (fun i => fixE (es.getD i dE) == true) (List.range' 0 es.length)
    rw [List.length_range'] at this
    exact this
  refine bX6_fixedAhead (fun _ => bX6_fixedAhead_6 (fun _ _ _ _ => ⟨fun z => by omega, fun _ => ?_⟩))
  refine s6_fixed14 (v := 0) H (by decide) es.length 0 0 h0 [] (by omega) (by simpa using (Nat.le_trans le1 q)) (by omega) (by omega) ⟨.rfl, fun j hj => by simp at hj⟩ (fun h1 F1 => ?_)
  rw [List.nil_append] at F1 ⊢
  have m1 := movF_rg (fun i => fixE (es.getD i dE) == true) es.length 0 0
  refine bX6_fixedAhead_6 (fun _ _ _ _ => ⟨fun z => by omega, fun _ => ?_⟩)
  refine s6_fixed14 (v := 1) H (by decide) es.length 0 _ h1 _ (by omega) ?_ ?_ ?_ F1 (fun h2 F2 => ?_)
  · have := ln
    unfold arrI at this
    rw [List.length_append] at this
    show ((List.range' 0 es.length).filter (fun i => fixE (es.getD i dE) == true)).length + ((List.range' 0 es.length).filter (fun i => fixE (es.getD i dE) == false)).length ≤ 20
    omega
  · show 0 ≤ 0 + movF (fun i => fixE (es.getD i dE) == true) es.length 0 0
    omega
  · show 0 + movF (fun i => fixE (es.getD i dE) == true) es.length 0 0 + es.length ≤ 1000
    omega
  · refine bX6_fixedAhead_6 (fun _ _ _ _ => ⟨fun _ => ?_, fun z => by omega⟩)
    refine s6_fixed89 (I := arrI es) H ln hlt es.length 0 h2 (by omega) (F2.1.mono (by omega) (by omega)) (fun i hi => F2.2 i hi) (fun i hi => ?_) (fun h3 F3 E3 => ?_)
    · rw [if_neg (by omega)]
      exact jFr_elV F2.1 (by omega) i
    · have k2 := k h3 (F3.mono (by omega) (by omega)) ?_
      · simpa [arrM] using k2
      · have al : (arrE es).length = es.length := by rw [← arrI_es, List.length_map, ln]
        have gI : ∀ i, i < es.length → (arrI es).getD i 0 < es.length := fun i hi => by
          rw [List.getD_eq_getElem?_getD, List.getElem?_eq_getElem (by omega)]
          exact hlt _ (List.getElem_mem _)
        obtain ⟨q1, q2, q3, q4, q5, q6, q7, q8, q9, q10⟩ := H.1
        have F7 := F3.2.2.2.2 L (by omega)
        refine ⟨⟨by rw [F3.1]; exact q1, by rw [(F7.1 400).2]; exact q2, by rw [(F7.1 401).2]; exact q3, by rw [F3.1]; exact q4, by rw [F3.1]; exact q5, by rw [F3.2.1]; exact q6, by rw [F3.2.1]; exact q7, fun i hi => ?_, fun i hi j hj e => ?_, fun j hj => F3.sh (q10 j hj) (by omega)⟩, by rw [(F7.1 402).1, al]; exact H.2.1, by omega, fun i hi => ?_⟩
        · rw [E3 i hi]
          split
          · rename_i z
            exact q8 _ (by have := gI i z; omega)
          · exact q8 i hi
        · rw [E3 i hi, E3 j hj] at e
          by_cases zi : i < es.length
          · by_cases zj : j < es.length
            · rw [if_pos zi, if_pos zj] at e
              have e2 := q9 _ (by have := gI i zi; omega) _ (by have := gI j zj; omega) e
              rw [List.getD_eq_getElem?_getD, List.getD_eq_getElem?_getD, List.getElem?_eq_getElem (by omega), List.getElem?_eq_getElem (by omega)] at e2
              exact (List.getElem?_inj (i := i) (by omega) nd).mp (by rw [List.getElem?_eq_getElem (by omega), List.getElem?_eq_getElem (by omega)]; exact congrArg some e2)
            · rw [if_pos zi, if_neg zj] at e
              have g := gI i zi
              have e2 := q9 _ (by omega) _ hj e
              omega
          · by_cases zj : j < es.length
            · rw [if_neg zi, if_pos zj] at e
              have g := gI j zj
              have e2 := q9 _ hi _ (by omega) e
              omega
            · rw [if_neg zi, if_neg zj] at e
              exact q9 _ hi _ hj e
        · rw [al] at hi
          have g := gI i hi
          rw [E3 i (by omega), if_pos hi]
          have rg := H.1.rg (k := (arrI es).getD i 0) (by omega)
          have e : (arrE es).getD i dE = es.getD ((arrI es).getD i 0) dE := by
            rw [← arrI_es, List.getD_eq_getElem?_getD, List.getElem?_map, List.getElem?_eq_getElem (by omega), List.getD_eq_getElem?_getD (l := arrI es), List.getElem?_eq_getElem (by omega)]
            rfl
          rw [e]
          exact F3.el (H.2.2.2 _ g) (by omega)
end F6
