/-! WHAT THE CONSTRUCTORS MAKE, 2 -/
section MK2
variable {d x : Nat} {h h1 h2 : jH} {Q : jO → jH → Prop}
theorem s5_init (k : ∀ h', jMk h h' 5 105 → isEnc h' (hS h) (hS h + 3) → Q (.inl none) h') : jCall (d + 2) mX5_init [jR (hS h)] (sN h 4 0 3) Q := by
  refine bX5_init (fun ok => ?_)
  have z : 10 ≤ hS h + 1 := ok.2.2.2.1
  refine ⟨by omega, ?_, ?_, ?_, s7_init (n := 0) (by decide) (fun h1 m1 R1 => ⟨rfl, ?_, k _ ?_ ?_⟩)⟩
  · show (if hS h = hS h + 1 then 10 else if hS h = hS h then 4 else _) = 4
    rw [if_neg (by omega), if_pos rfl]
  · show (if hS h = hS h + 2 then 10 else if hS h = hS h + 1 then 10 else if hS h = hS h then 4 else _) = 4
    rw [if_neg (by omega), if_neg (by omega), if_pos rfl]
  · show hS h + 3 ≠ 0
    omega
  all_goals
    have e1 : hS h1 = hS h + 3 + 2 := m1.1
    have e2 : hT h1 = hT h + 3 + 50 + 50 + 2 := m1.2.1
    have u : uFr 0 (hS h + 3) _ h1 := m1.2.2
  · rw [u.k (by omega)]
    show (if hS h = hS h + 2 then 10 else if hS h = hS h + 1 then 10 else if hS h = hS h then 4 else _) = 4
    rw [if_neg (by omega), if_neg (by omega), if_pos rfl]
  · refine ⟨by rw [hS_sR]; omega, by rw [hT_sR]; omega, uFr.sR (uFr.trans (uFr.sR ?_ (.inr (Nat.le_refl _))) (u.mono (Nat.le_refl _) (by omega))) (.inr (Nat.le_refl _))⟩
    refine uFr.trans (uFr.sR ?_ (.inr (Nat.le_refl _))) (uFr.sN (by simp only [hS_sR, hS_sN]; omega) _ _ _)
    exact (uFr.sN (Nat.le_refl _) _ _ _).trans (uFr.sN (by rw [hS_sN]; omega) _ _ _)
  · refine ⟨?_, ?_, ?_, ?_, ?_, ?_, ?_, ?_⟩
    · rw [hK_sR, u.k (by omega)]
      show (if hS h = hS h + 2 then 10 else if hS h = hS h + 1 then 10 else if hS h = hS h then 4 else _) = 4
      rw [if_neg (by omega), if_neg (by omega), if_pos rfl]
    · rw [hR_sR, if_neg (by omega), u.r (by omega)]
      show (if 300 = 301 ∧ hS h = hS h then hS h + 2 else if hS h = hS h + 2 then 0 else if 300 = 300 ∧ hS h = hS h then hS h + 1 else _) = hS h + 1
      rw [if_neg (by omega), if_neg (by omega), if_pos ⟨rfl, rfl⟩]
    · rw [hR_sR, if_neg (by omega), u.r (by omega)]
      show (if 301 = 301 ∧ hS h = hS h then hS h + 2 else _) = hS h + 2
      rw [if_pos ⟨rfl, rfl⟩]
    · rw [hK_sR, u.k (by omega)]
      show (if hS h + 1 = hS h + 2 then 10 else if hS h + 1 = hS h + 1 then 10 else _) = 10
      rw [if_neg (by omega), if_pos rfl]
    · rw [hK_sR, u.k (by omega)]
      show (if hS h + 2 = hS h + 2 then 10 else _) = 10
      rw [if_pos rfl]
    · show hN h1 (hS h + 1) = 50
      rw [u.len (by omega)]
      show (if hS h + 1 = hS h + 2 then (50 : Int) else if hS h + 1 = hS h + 1 then 50 else _) = 50
      rw [if_neg (by omega), if_pos rfl]
    · show hN h1 (hS h + 2) = 50
      rw [u.len (by omega)]
      show (if hS h + 2 = hS h + 2 then (50 : Int) else _) = 50
      rw [if_pos rfl]
    · rw [hR_sR, if_pos ⟨rfl, rfl⟩]; rfl
theorem s9_init (k : ∀ h', jMk h h' 68 2035 → isTR h' (hS h) (hS h + 66) false 0 0 → isLab h' (hS h + 1) [] → isRow h' (hS h + 64) 20 [] → Q (.inl none) h') : jCall (d + 4) mX9_init [jR (hS h)] (sN h 7 0 8) Q := by
  refine bX9_init (fun ok => ?_)
  have z : 10 ≤ hS h + 1 := ok.2.2.2.1
  refine ⟨by omega, by rw [hS_sN]; omega, s6_init (d := d) (fun h1 m1 L1 => ⟨rfl, ?_, ?_⟩)⟩
  all_goals
    have e1 : hS h1 = hS h + 1 + 63 := m1.1
    have f1 : hT h1 = hT h + 8 + 2003 := m1.2.1
    have u1 : uFr 0 (hS h + 1) (sN h 7 0 8) h1 := m1.2.2
    have k1 : hK h1 (hS h) = 7 := by rw [u1.k (by omega), hK_sN, if_pos rfl]
  · exact k1
  refine ⟨by omega, ?_⟩
  have n1 := s7_init (d := d + 2) (h := sR h1 600 (hS h) (hS (sN h 7 0 8))) (n := 20) (Q := fun o h22 => o = Sum.inl none ∧ hK h22 (hS h) = 7 ∧ hS h22 ≠ 0 ∧ jCall (d + 3) mX7_init [jR (hS h22), jI 0] (sN (sR h22 601 (hS h) (hS h1)) 6 0 2) (fun o h34 => o = Sum.inl none ∧ hK h34 (hS h) = 7 ∧ Q (Sum.inl none) (sR h34 602 (hS h) (hS h22)))) (by decide) (fun h2 m2 R2 => ?_)
  · exact n1
  have e2 : hS h2 = hS h1 + 2 := m2.1
  have f2 : hT h2 = hT h1 + 22 := m2.2.1
  have u2 : uFr 0 (hS h1) (sR h1 600 (hS h) (hS h + 1)) h2 := m2.2.2
  have k2 : hK h2 (hS h) = 7 := by rw [u2.k (by omega)]; exact k1
  refine ⟨rfl, k2, by omega, ?_⟩
  refine s7_init (d := d + 2) (h := sR h2 601 (hS h) (hS h1)) (n := 0) (by decide) (fun h3 m3 R3 => ?_)
  have e3 : hS h3 = hS h2 + 2 := m3.1
  have f3 : hT h3 = hT h2 + 2 := m3.2.1
  have u3 : uFr 0 (hS h2) (sR h2 601 (hS h) (hS h1)) h3 := m3.2.2
  have k3 : hK h3 (hS h) = 7 := by rw [u3.k (by omega)]; exact k2
  have g1 : uFr 0 (hS h) h h1 := (uFr.sN (Nat.le_refl _) _ _ _).trans (u1.mono (Nat.le_refl _) (by omega))
  have g2 : uFr 0 (hS h) h h2 := (g1.sR (.inr (Nat.le_refl _))).trans (u2.mono (Nat.le_refl _) (by omega))
  have g3 : uFr 0 (hS h) h h3 := (g2.sR (.inr (Nat.le_refl _))).trans (u3.mono (Nat.le_refl _) (by omega))
  have w2 : uFr (hS h + 1) (hS h1) h1 h2 := (uFr.rfl.sR (.inl (by omega))).trans (u2.mono (by omega) (Nat.le_refl _))
  have w3 : uFr (hS h + 1) (hS h2) h2 h3 := (uFr.rfl.sR (.inl (by omega))).trans (u3.mono (by omega) (Nat.le_refl _))
  have fr := jFr_R h3 602 (hS h) (hS h2)
  have i1 : ∀ f, hI h1 f (hS h) = 0 := fun f => by rw [u1.i (by omega), hI_sN, if_pos rfl]
  have i2 : ∀ f, hI h2 f (hS h) = 0 := fun f => by rw [u2.i (by omega)]; exact i1 f
  have i3 : ∀ f, hI h3 f (hS h) = 0 := fun f => by rw [u3.i (by omega)]; exact i2 f
  refine ⟨rfl, k3, k _ ⟨by rw [hS_sR]; omega, by rw [hT_sR]; omega, g3.sR (.inr (Nat.le_refl _))⟩ ⟨k3, ?_, ?_, ?_, i3 _, i3 _, i3 _⟩ ?_ ?_⟩
  · rw [hR_sR, if_neg (by omega), u3.r (by omega), hR_sR, if_neg (by omega), u2.r (by omega), hR_sR, if_pos ⟨rfl, rfl⟩]
  · rw [hR_sR, if_neg (by omega), u3.r (by omega), hR_sR, if_pos ⟨rfl, rfl⟩]; omega
  · rw [hR_sR, if_pos ⟨rfl, rfl⟩]; omega
  · have L1' : isLab h1 (hS h + 1) [] := L1
    exact fr.lab (w3.lab (w2.lab L1' (by omega)) (by omega)) (.inr (by omega))
  · have R2' : isRow h2 (hS h + 64) 20 [] := by rw [show hS h + 64 = hS h1 by omega]; exact R2
    exact fr.row (w3.row R2' (by omega)) (.inr (by omega))
theorem s0_init {a : Nat} (k : ∀ h', jMk h h' 7 215 → isBR h' (hS h) a (hS h + 5) 0 0 false → isRow h' (hS h + 1) 100 [] → isRow h' (hS h + 3) 100 [] → Q (.inl none) h') : jCall (d + 2) mX0_init [jR (hS h), jR a] (sN h 1 0 9) Q := by
  refine bX0_init (fun ok => ?_)
  have z : 10 ≤ hS h + 1 := ok.2.2.2.1
  have k0 : hK (sN h 1 0 9) (hS h) = 1 := by rw [hK_sN, if_pos rfl]
  refine ⟨by omega, k0, by rw [hS_sN]; omega, ?_⟩
  refine s7_init (d := d) (h := sR (sN h 1 0 9) 0 (hS h) a) (n := 100) (by decide) (fun h1 m1 R1 => ?_)
  have e1 : hS h1 = hS h + 1 + 2 := m1.1
  have f1 : hT h1 = hT h + 9 + 102 := m1.2.1
  have u1 : uFr 0 (hS h + 1) (sR (sN h 1 0 9) 0 (hS h) a) h1 := m1.2.2
  have k1 : hK h1 (hS h) = 1 := by rw [u1.k (by omega)]; exact k0
  refine ⟨rfl, k1, by omega, ?_⟩
  refine s7_init (d := d) (h := sR h1 1 (hS h) (hS h + 1)) (n := 100) (by decide) (fun h2 m2 R2 => ?_)
  have e2 : hS h2 = hS h1 + 2 := m2.1
  have f2 : hT h2 = hT h1 + 102 := m2.2.1
  have u2 : uFr 0 (hS h1) (sR h1 1 (hS h) (hS h + 1)) h2 := m2.2.2
  have k2 : hK h2 (hS h) = 1 := by rw [u2.k (by omega)]; exact k1
  refine ⟨rfl, k2, by omega, ?_⟩
  refine s7_init (d := d) (h := sR h2 2 (hS h) (hS h1)) (n := 0) (by decide) (fun h3 m3 R3 => ?_)
  have e3 : hS h3 = hS h2 + 2 := m3.1
  have f3 : hT h3 = hT h2 + 2 := m3.2.1
  have u3 : uFr 0 (hS h2) (sR h2 2 (hS h) (hS h1)) h3 := m3.2.2
  have k3 : hK h3 (hS h) = 1 := by rw [u3.k (by omega)]; exact k2
  have g1 : uFr 0 (hS h) h h1 := ((uFr.sN (Nat.le_refl _) _ _ _).sR (.inr (Nat.le_refl _))).trans (u1.mono (Nat.le_refl _) (by omega))
  have g2 : uFr 0 (hS h) h h2 := (g1.sR (.inr (Nat.le_refl _))).trans (u2.mono (Nat.le_refl _) (by omega))
  have g3 : uFr 0 (hS h) h h3 := (g2.sR (.inr (Nat.le_refl _))).trans (u3.mono (Nat.le_refl _) (by omega))
  have w2 : uFr (hS h + 1) (hS h1) h1 h2 := (uFr.rfl.sR (.inl (by omega))).trans (u2.mono (by omega) (Nat.le_refl _))
  have w3 : uFr (hS h + 1) (hS h2) h2 h3 := (uFr.rfl.sR (.inl (by omega))).trans (u3.mono (by omega) (Nat.le_refl _))
  have fr := jFr_R h3 3 (hS h) (hS h2)
  have i1 : ∀ f, hI h1 f (hS h) = 0 := fun f => by rw [u1.i (by omega), hI_sR, hI_sN, if_pos rfl]
  have i2 : ∀ f, hI h2 f (hS h) = 0 := fun f => by rw [u2.i (by omega)]; exact i1 f
  have i3 : ∀ f, hI h3 f (hS h) = 0 := fun f => by rw [u3.i (by omega)]; exact i2 f
  refine ⟨rfl, k3, k _ ⟨by rw [hS_sR]; omega, by rw [hT_sR]; omega, g3.sR (.inr (Nat.le_refl _))⟩ ⟨k3, ?_, ?_, ?_, ?_, i3 _, i3 _, i3 _⟩ ?_ ?_⟩
  · rw [hR_sR, if_neg (by omega), u3.r (by omega), hR_sR, if_neg (by omega), u2.r (by omega), hR_sR, if_neg (by omega), u1.r (by omega), hR_sR, if_pos ⟨rfl, rfl⟩]
  · rw [hR_sR, if_neg (by omega), u3.r (by omega), hR_sR, if_neg (by omega), u2.r (by omega), hR_sR, if_pos ⟨rfl, rfl⟩]
  · rw [hR_sR, if_neg (by omega), u3.r (by omega), hR_sR, if_pos ⟨rfl, rfl⟩]; omega
  · rw [hR_sR, if_pos ⟨rfl, rfl⟩]; omega
  · have R1' : isRow h1 (hS h + 1) 100 [] := R1
    exact fr.row (w3.row (w2.row R1' (by omega)) (by omega)) (.inr (by omega))
  · have R2' : isRow h2 (hS h + 3) 100 [] := by rw [show hS h + 3 = hS h1 by omega]; exact R2
    exact fr.row (w3.row R2' (by omega)) (.inr (by omega))
end MK2
