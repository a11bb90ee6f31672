/-! WHAT THE CONSTRUCTORS MAKE -/
theorem hK_sN (h : jH) (kd : Nat) (v : Int) (sz : Nat) (o : Nat) : hK (sN h kd v sz) o = if o = hS h then kd else hK h o := rfl
theorem hN_sN (h : jH) (kd : Nat) (v : Int) (sz : Nat) (o : Nat) : hN (sN h kd v sz) o = if o = hS h then v else hN h o := rfl
theorem hS_sN (h : jH) (kd : Nat) (v : Int) (sz : Nat) : hS (sN h kd v sz) = hS h + 1 := rfl
theorem hT_sN (h : jH) (kd : Nat) (v : Int) (sz : Nat) : hT (sN h kd v sz) = hT h + sz := rfl
theorem hI_sN (h : jH) (kd : Nat) (v : Int) (sz f o : Nat) : hI (sN h kd v sz) f o = if o = hS h then 0 else hI h f o := rfl
theorem hR_sN (h : jH) (kd : Nat) (v : Int) (sz f o : Nat) : hR (sN h kd v sz) f o = if o = hS h then 0 else hR h f o := rfl
theorem hA_sN (h : jH) (kd : Nat) (v : Int) (sz o : Nat) (i : Int) : hA (sN h kd v sz) o i = if o = hS h then 0 else hA h o i := rfl
theorem hQ_sN (h : jH) (kd : Nat) (v : Int) (sz o : Nat) (i : Int) : hQ (sN h kd v sz) o i = if o = hS h then 0 else hQ h o i := rfl
/-- k things more, of t slots; what was there stays -/
def jMk (h h' : jH) (k t : Nat) : Prop := hS h' = hS h + k ∧ hT h' = hT h + t ∧ uFr 0 (hS h) h h'
section MK
variable {d x : Nat} {h h1 h2 : jH} {Q : jO → jH → Prop}
theorem jMk.trans {k t k2 t2 : Nat} (p : jMk h h1 k t) (q : jMk h1 h2 k2 t2) : jMk h h2 (k + k2) (t + t2) := by
  have p1 := p.1
  have p2 := p.2.1
  have q1 := q.1
  have q2 := q.2.1
  exact ⟨by omega, by omega, p.2.2.trans (q.2.2.mono (Nat.le_refl _) (by omega))⟩
theorem jMk.u {k t a n : Nat} (p : jMk h h1 k t) (hn : n ≤ hS h) : uFr a n h h1 := p.2.2.mono (by omega) hn
theorem s7_init {n : Int} (h0 : 0 ≤ n ∧ n ≤ 1000000) (k : ∀ h', jMk h h' 2 (2 + n.toNat) → isRow h' (hS h) n.toNat [] → Q (.inl none) h') : jCall (d + 1) mX7_init [jR (hS h), jI n] (sN h 6 0 2) Q := by
  refine bX7_init (fun ok _ => ?_)
  have z : 10 ≤ hS h + 1 := ok.2.2.2.1
  refine ⟨by omega, s9_max ⟨n, by rw [Int.max_eq_left h0.1], h0, ?_, ?_⟩⟩
  · rw [hK_sN, hS_sN, if_neg (by omega), hK_sN, if_pos rfl]
  · refine k _ ⟨by simp only [hS_sI, hS_sR, hS_sN], by simp only [hT_sI, hT_sR, hT_sN]; omega, ?_⟩ ⟨?_, ?_, ?_, ?_, ?_, ?_, ?_⟩
    · exact (((uFr.sN (Nat.le_refl _) _ _ _).trans (uFr.sN (by rw [hS_sN]; omega) _ _ _)).sR (.inr (Nat.le_refl _))).sI (.inr (Nat.le_refl _))
    · rw [hK_sI, hK_sR, hK_sN, hS_sN, if_neg (by omega), hK_sN, if_pos rfl]
    · rw [hR_sI, hR_sR, if_pos ⟨rfl, rfl⟩]; rfl
    · rw [hK_sI, hK_sR, hK_sN, hS_sN, if_pos rfl]
    · show hN (sN (sN h 6 0 2) 10 n n.toNat) (hS h + 1) = _
      rw [hN_sN, hS_sN, if_pos rfl]; omega
    · rw [hI_sI, if_pos ⟨rfl, rfl⟩]; rfl
    · exact Nat.zero_le _
    · intro i hi; exact absurd hi (by simp)
theorem jFr_R (h : jH) (f o v : Nat) : jFr o (o + 1) h (sR h f o v) := ⟨.refl _, .refl _, .refl _, .refl _, fun p hp => ⟨fun g => ⟨.refl _, by rw [hR_sR, if_neg (by omega)]⟩, fun j => ⟨.refl _, .refl _⟩⟩⟩
theorem s4_init (k : ∀ h', jMk h h' 3 98 → shEl h' (hS h) → Q (.inl none) h') : jCall (d + 2) mX4_init [jR (hS h)] (sN h 3 0 6) Q := by
  refine bX4_init (fun ok => ?_)
  have z : 10 ≤ hS h + 1 := ok.2.2.2.1
  refine ⟨by omega, by rw [hS_sN]; omega, s7_init (n := 90) (by decide) (fun h1 m1 R1 => ⟨rfl, ?_, k _ ?_ ?_⟩)⟩
  · rw [m1.2.2.k (by rw [hS_sN]; omega), hK_sN, if_pos rfl]
  · have e1 := m1.1
    have e2 := m1.2.1
    rw [hS_sN] at e1
    rw [hT_sN] at e2
    exact ⟨by rw [hS_sR]; omega, by rw [hT_sR]; have : (90 : Int).toNat = 90 := rfl; omega, ((uFr.sN (Nat.le_refl _) _ _ _).trans (m1.u (by rw [hS_sN]; omega))).sR (.inr (Nat.le_refl _))⟩
  · have R2 := (jFr_R h1 200 (hS h) (hS (sN h 3 0 6))).row R1 (.inr (by rw [hS_sN]; omega))
    refine ⟨?_, ?_, [], R2⟩
    · rw [hK_sR, m1.2.2.k (by rw [hS_sN]; omega), hK_sN, if_pos rfl]
    · rw [hR_sR, if_pos ⟨rfl, rfl⟩]; rfl
/-- a label being made: i of its elements stand -/
def mkLab (h : jH) (L i : Nat) : Prop := hS h = L + 3 + 3 * i ∧ hK h L = 5 ∧ hR h 400 L = L + 1 ∧ hR h 401 L = L + 2 ∧ hK h (L + 1) = 14 ∧ hK h (L + 2) = 14 ∧ hN h (L + 1) = 20 ∧ hN h (L + 2) = 20 ∧ ∀ j, j < i → elV h L j = L + 3 + 3 * j ∧ shEl h (L + 3 + 3 * j)
theorem s6_init_loop {L : Nat} {b : jH} (n : Nat) : ∀ (i : Nat) (h : jH), i + n = 20 → mkLab h L i → hT h = hT b + 43 + 98 * i → uFr 0 L b h → (∀ h', hS h' = L + 63 → hT h' = hT b + 2003 → uFr 0 L b h' → isLab h' L [] → Q (.inl none) h') → jWp (d + 3) mX6_init 24 [(0, jR L), (1, jI i)] [] h Q := by
  induction n with
  | zero =>
    intro i h hi M ht f k
    refine bX6_init_24 (fun _ _ => ⟨fun _ => ⟨M.2.1, ?_⟩, fun w => absurd (by omega) w⟩)
    obtain rfl : i = 20 := by omega
    obtain ⟨q0, q1, q2, q3, q4, q5, q6, q7, q8⟩ := M
    refine k _ (by rw [hS_sI]; omega) (by rw [hT_sI]; omega) (f.sI (.inr (Nat.le_refl _))) ⟨⟨q1, q2, q3, q4, q5, q6, q7, fun j hj => ⟨j, hj, (q8 j hj).1⟩, fun i hi j hj e => ?_, fun j hj => ?_⟩, ?_, by simp, fun j hj => absurd hj (by simp)⟩
    · change elV h L i = elV h L j at e
      rw [(q8 i hi).1, (q8 j hj).1] at e; omega
    · obtain ⟨u1, u2, l, u3⟩ := (q8 j hj).2
      exact ⟨u1, u2, l, (jFI_I h 402 L 0).row u3 (.inr (by omega))⟩
    · rw [hI_sI, if_pos ⟨rfl, rfl⟩]; rfl
  | succ n ih =>
    intro i h hi M ht f k
    refine bX6_init_24 (fun ok _ => ⟨fun w => absurd w (by omega), fun _ => ⟨M.2.1, ?_, s4_init (d := d) (fun h1 m1 E1 => ?_)⟩⟩)
    · have z : 10 ≤ hS h := ok.2.2.2.1
      omega
    · obtain ⟨q0, q1, q2, q3, q4, q5, q6, q7, q8⟩ := M
      have u : uFr 0 (hS h) h h1 := m1.2.2
      rw [q2]
      refine ⟨rfl, ?_, by omega, ?_, ?_, ⟨by omega, by omega⟩, ?_⟩
      · rw [u.k (by omega)]; exact q4
      · rw [u.len (by omega), q6]; omega
      · exact E1.1
      · have e1 := m1.1
        have e2 := m1.2.1
        have fq := jFr_Q h1 (L + 1) (i : Int) (hS h)
        have := ih (i + 1) (sQ h1 (L + 1) (i : Int) (hS h)) (by omega) ⟨by rw [hS_sQ]; omega, (u.k (by omega)).trans q1, (u.r (by omega) _).trans q2, (u.r (by omega) _).trans q3, (u.k (by omega)).trans q4, (u.k (by omega)).trans q5, (u.len (by omega)).trans q6, (u.len (by omega)).trans q7, fun j hj => ?_⟩ (by rw [hT_sQ]; omega) ((f.trans (u.mono (Nat.le_refl _) (by omega))).sQ (.inr (by omega))) k
        · rw [show ((i + 1 : Nat) : Int) = (i : Int) + 1 by omega] at this
          exact this
        · by_cases c : j = i
          · subst c
            refine ⟨?_, ?_⟩
            · show (if L + 1 = L + 1 ∧ (j : Int) = (j : Int) then hS h else _) = _
              rw [if_pos ⟨rfl, rfl⟩]; omega
            · have := E1
              rw [q0] at this
              obtain ⟨u1, u2, l, u3⟩ := this
              exact ⟨u1, u2, l, fq.row u3 (.inr (by omega))⟩
          · have qj := q8 j (by omega)
            refine ⟨?_, ?_⟩
            · show (if L + 1 = L + 1 ∧ (j : Int) = (i : Int) then hS h else hQ h1 (L + 1) (j : Int)) = _
              rw [if_neg (by omega), u.q (by omega)]; exact qj.1
            · obtain ⟨u1, u2, l, u3⟩ := u.shEl qj.2 (by omega)
              exact ⟨u1, u2, l, fq.row u3 (.inr (by omega))⟩
theorem s6_init (k : ∀ h', jMk h h' 63 2003 → isLab h' (hS h) [] → Q (.inl none) h') : jCall (d + 3) mX6_init [jR (hS h)] (sN h 5 0 3) Q := by
  refine bX6_init (fun ok => ?_)
  have z : 10 ≤ hS h + 1 := ok.2.2.2.1
  have hk : ∀ (o : Nat), hK (sN (sN h 5 0 3) 14 20 20) o = if o = hS h + 1 then 14 else if o = hS h then 5 else hK h o := fun o => rfl
  refine ⟨by omega, ?_, ?_, ?_⟩
  · rw [hk, if_neg (by omega), if_pos rfl]
  · rw [hK_sN, hK_sR, hS_sR, hS_sN, hS_sN, if_neg (by omega), hk, if_neg (by omega), if_pos rfl]
  · refine s6_init_loop (b := h) 20 0 _ (by omega) ⟨?_, ?_, ?_, ?_, ?_, ?_, ?_, ?_, fun j hj => absurd hj (by omega)⟩ ?_ ?_ (fun h1 e1 e2 f1 L1 => k h1 ⟨e1, e2, f1⟩ L1)
    · simp only [hS_sR, hS_sN]
    · show (if hS h = hS h + 2 then 14 else if hS h = hS h + 1 then 14 else if hS h = hS h then 5 else hK h (hS h)) = 5
      rw [if_neg (by omega), if_neg (by omega), if_pos rfl]
    · show (if 400 = 401 ∧ hS h = hS h then hS h + 2 else if hS h = hS h + 2 then 0 else if 400 = 400 ∧ hS h = hS h then hS h + 1 else _) = hS h + 1
      rw [if_neg (by omega), if_neg (by omega), if_pos ⟨rfl, rfl⟩]
    · rw [hR_sR, if_pos ⟨rfl, rfl⟩]; rfl
    · show (if hS h + 1 = hS h + 2 then 14 else if hS h + 1 = hS h + 1 then 14 else _) = 14
      rw [if_neg (by omega), if_pos rfl]
    · show (if hS h + 2 = hS h + 2 then 14 else _) = 14
      rw [if_pos rfl]
    · show hN (sN (sR (sN (sN h 5 0 3) 14 20 20) 400 (hS h) (hS (sN h 5 0 3))) 14 20 20) (hS h + 1) = 20
      rw [hN_sN, hS_sR, hS_sN, hS_sN, if_neg (by omega)]
      show hN (sN (sN h 5 0 3) 14 20 20) (hS h + 1) = 20
      rw [hN_sN, hS_sN, if_pos rfl]
    · show hN (sN (sR (sN (sN h 5 0 3) 14 20 20) 400 (hS h) (hS (sN h 5 0 3))) 14 20 20) (hS h + 2) = 20
      rw [hN_sN, hS_sR, hS_sN, hS_sN, if_pos rfl]
    · simp only [hT_sR, hT_sN]
    · refine uFr.sR ?_ (.inr (Nat.le_refl _))
      refine uFr.trans ?_ (uFr.sN (by simp only [hS_sR, hS_sN]; omega) _ _ _)
      refine uFr.sR ?_ (.inr (Nat.le_refl _))
      exact (uFr.sN (Nat.le_refl _) _ _ _).trans (uFr.sN (by rw [hS_sN]; omega) _ _ _)
end MK
