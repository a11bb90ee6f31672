/-! THE PRESS: scan -/
theorem rcF_ne (t : List Int) (lo wi : Int) (fr : Bool) : ∀ (f : Nat) (i : Int) (cs ps : List Int) {a b : Int}, (rcF t lo wi fr f i cs ps).2.2 = some (a, b) → 1 ≤ a
  | 0, _, _, _, _, _, h => by cases h; omega
  | f + 1, i, cs, ps, a, b, h => by
    unfold rcF at h
    by_cases z : badC t lo wi fr i cs.length = true
    · rw [if_pos z] at h; cases h; omega
    · rw [if_neg z] at h
      by_cases y : stpB t lo wi fr i = true
      · rw [if_pos y] at h
        by_cases w : i + 13 < wi
        · simp only [if_pos w] at h; cases h; omega
        · simp only [if_neg w] at h; cases h
      · rw [if_neg y] at h
        exact rcF_ne t lo wi fr f _ _ _ h
theorem jfV_ne {cs ps : List Int} {a b : Int} (h : jfV cs ps = some (a, b)) : 1 ≤ a := by
  unfold jfV at h
  by_cases z : (cs.length : Int) - 2 < 1 ∨ lAt cs (cs.length - 2) ≠ chkV cs (cs.length - 2)
  · rw [if_pos z] at h; cases h; omega
  · rw [if_neg z] at h
    by_cases y : (cs.length : Int) - 2 = 1 ∨ lAt cs 1 ≠ 102
    · rw [if_pos y] at h; cases h; omega
    · rw [if_neg y] at h; cases h
theorem jfV_none {cs ps : List Int} (h : jfV cs ps = none) : 3 ≤ cs.length := by
  unfold jfV at h
  by_cases z : (cs.length : Int) - 2 < 1 ∨ lAt cs (cs.length - 2) ≠ chkV cs (cs.length - 2)
  · rw [if_pos z] at h; cases h
  · omega
theorem rbV_ok {t : List Int} (h : (rbV t).2.2.1 = 0) : wiV t ≠ 0 ∧ 3 ≤ (rbV t).1.length ∧ (rbV t).2.2.2 = -1 ∧ ∀ y ∈ (rbV t).1, 0 ≤ y ∧ y ≤ 106 := by
  have cs := rcF_cs t (lzV t) (wiV t) (frV t (lzV t) (wiV t)) 100 0 [] [] (fun x hx => by simp at hx)
  unfold rbV at h ⊢
  by_cases z : wiV t = 0
  · rw [if_pos z] at h; exact absurd h (by decide)
  · rw [if_neg z] at h ⊢
    have ne : ∀ a b : Int, (rcF t (lzV t) (wiV t) (frV t (lzV t) (wiV t)) 100 0 [] []).2.2 = some (a, b) → 1 ≤ a := fun a b => rcF_ne t (lzV t) (wiV t) (frV t (lzV t) (wiV t)) 100 0 [] []
    generalize rcF t (lzV t) (wiV t) (frV t (lzV t) (wiV t)) 100 0 [] [] = r at *
    obtain ⟨r1, r2, r3⟩ := r
    cases r3 with
    | some ab =>
      have := ne ab.1 ab.2 rfl
      have h' : ab.1 = 0 := h
      omega
    | none =>
      cases hj : jfV r1 r2 with
      | some ab =>
        have := jfV_ne (a := ab.1) (b := ab.2) hj
        simp only [hj] at h
        have h' : ab.1 = 0 := h
        omega
      | none =>
        simp only [hj]
        exact ⟨z, jfV_none hj, trivial, cs⟩
theorem tlF_rg {cs ps : List Int} {e : Nat} (hc : ∀ y ∈ cs, 0 ≤ y ∧ y ≤ 106) (he : e ≤ cs.length) : ∀ (n i : Nat) (s : Int) (o : List Int), (∀ y ∈ o, 0 ≤ y ∧ y < 256) → ∀ y ∈ (tlF cs ps e n i s o).1, 0 ≤ y ∧ y < 256
  | 0, _, _, _, h => h
  | n + 1, i, s, o, h => by
    unfold tlF
    have app : ∀ l : List Int, (∀ y ∈ l, 0 ≤ y ∧ y < 256) → ∀ y ∈ o ++ l, 0 ≤ y ∧ y < 256 := fun l hl y hy => by
      rcases List.mem_append.mp hy with w | w
      · exact h y w
      · exact hl y w
    by_cases z0 : e ≤ i
    · rw [if_pos z0]; exact h
    · rw [if_neg z0]
      have cr : 0 ≤ lAt cs i ∧ lAt cs i ≤ 106 := by
        rw [lAt_get (by omega), List.getD_eq_getElem?_getD, List.getElem?_eq_getElem (by omega)]
        exact hc _ (List.getElem_mem _)
      by_cases z1 : lAt cs i = 102
      · rw [if_pos z1]
        exact tlF_rg hc he n _ _ _ (app _ (fun y hy => by rw [List.mem_singleton.mp hy]; omega))
      · rw [if_neg z1]
        by_cases z2 : s = 105 ∧ lAt cs i < 100
        · rw [if_pos z2]
          refine tlF_rg hc he n _ _ _ (app _ (fun y hy => ?_))
          simp at hy
          omega
        · rw [if_neg z2]
          have b1 := bytV_rg s (lAt cs i)
          by_cases z3 : bytV s (lAt cs i) ≠ -1
          · rw [if_pos z3]
            exact tlF_rg hc he n _ _ _ (app _ (fun y hy => by rw [List.mem_singleton.mp hy]; omega))
          · rw [if_neg z3]
            by_cases z4 : shfV s (lAt cs i) (if i + 1 < e then lAt cs (i + 1) else -1) ≠ -1
            · rw [if_pos z4]
              refine tlF_rg hc he n _ _ _ (app _ (fun y hy => ?_))
              rw [List.mem_singleton.mp hy]
              unfold shfV at z4 ⊢
              by_cases w : lAt cs i = 98
              · rw [if_pos w] at z4 ⊢
                have := bytV_rg (othV s) (if i + 1 < e then lAt cs (i + 1) else -1)
                omega
              · rw [if_neg w] at z4
                exact absurd rfl z4
            · rw [if_neg z4]
              by_cases z5 : cgdV s (lAt cs i) ≠ -1
              · rw [if_pos z5]
                exact tlF_rg hc he n _ _ _ h
              · rw [if_neg z5]
                exact h
theorem tlF_ne {cs ps : List Int} {e : Nat} : ∀ (n i : Nat) (s : Int) (o : List Int) {a b : Int}, (tlF cs ps e n i s o).2 = some (a, b) → 1 ≤ a
  | 0, _, _, _, _, _, h => by cases h
  | n + 1, i, s, o, a, b, h => by
    unfold tlF at h
    by_cases z0 : e ≤ i
    · rw [if_pos z0] at h; cases h
    · rw [if_neg z0] at h
      by_cases z1 : lAt cs i = 102
      · rw [if_pos z1] at h; exact tlF_ne n _ _ _ h
      · rw [if_neg z1] at h
        by_cases z2 : s = 105 ∧ lAt cs i < 100
        · rw [if_pos z2] at h; exact tlF_ne n _ _ _ h
        · rw [if_neg z2] at h
          by_cases z3 : bytV s (lAt cs i) ≠ -1
          · rw [if_pos z3] at h; exact tlF_ne n _ _ _ h
          · rw [if_neg z3] at h
            by_cases z4 : shfV s (lAt cs i) (if i + 1 < e then lAt cs (i + 1) else -1) ≠ -1
            · rw [if_pos z4] at h; exact tlF_ne n _ _ _ h
            · rw [if_neg z4] at h
              by_cases z5 : cgdV s (lAt cs i) ≠ -1
              · rw [if_pos z5] at h; exact tlF_ne n _ _ _ h
              · rw [if_neg z5] at h; cases h; omega
/-- what a scan gives -/
def scanV (s : jP) : Int × jP :=
  if (rbV s.1.2.2.1).2.2.1 ≠ 0 then (-1, (s.1, s.2.1, (s.2.2.1.1, (rbV s.1.2.2.1).2.2.1, (rbV s.1.2.2.1).2.2.2), s.2.2.2))
  else match (tlV (rbV s.1.2.2.1).1 (rbV s.1.2.2.1).2.1).2 with
    | some (a, b) => (-1, (s.1, s.2.1, (s.2.2.1.1, a, b), (((rbV s.1.2.2.1).1.length : Int), 0, b2i (frV s.1.2.2.1 (lzV s.1.2.2.1) (wiV s.1.2.2.1)))))
    | none => accV (s.1, s.2.1, s.2.2.1, (((rbV s.1.2.2.1).1.length : Int), ((tlV (rbV s.1.2.2.1).1 (rbV s.1.2.2.1).2.1).1.length : Int), b2i (frV s.1.2.2.1 (lzV s.1.2.2.1) (wiV s.1.2.2.1)))) (rtF (tlV (rbV s.1.2.2.1).1 (rbV s.1.2.2.1).2.1).1 false s.2.2.1.1 false 21 0 [] [])
section U5
variable {d x : Nat} {h : jH} {Q : jO → jH → Prop} {s : jP}
theorem lp_note (H : isLP h x s) (a b : Int) : isLP (sI (sI h 713 x a) 714 x b) x (s.1, s.2.1, (s.2.2.1.1, a, b), s.2.2.2) := by
  obtain ⟨n1, n2, n3, n4, n5, n6⟩ := H.2.1
  refine lp_nums H ((jFI_I h 713 x a).trans (jFI_I _ 714 x b)) ⟨?_, ?_, ?_, ?_, ?_, ?_⟩
  · rw [hI_sI, if_neg (by omega), hI_sI, if_neg (by omega)]; exact n1
  · rw [hI_sI, if_neg (by omega), hI_sI, if_pos ⟨.refl _, .refl _⟩]
  · rw [hI_sI, if_pos ⟨.refl _, .refl _⟩]
  · rw [hI_sI, if_neg (by omega), hI_sI, if_neg (by omega)]; exact n4
  · rw [hI_sI, if_neg (by omega), hI_sI, if_neg (by omega)]; exact n5
  · rw [hI_sI, if_neg (by omega), hI_sI, if_neg (by omega)]; exact n6
theorem lp_715 (H : isLP h x s) (v : Int) : isLP (sI h 715 x v) x (s.1, s.2.1, s.2.2.1, (v, s.2.2.2.2)) := by
  obtain ⟨n1, n2, n3, n4, n5, n6⟩ := H.2.1
  refine lp_nums H (jFI_I h 715 x v) ⟨?_, ?_, ?_, ?_, ?_, ?_⟩
  · rw [hI_sI, if_neg (by omega)]; exact n1
  · rw [hI_sI, if_neg (by omega)]; exact n2
  · rw [hI_sI, if_neg (by omega)]; exact n3
  · rw [hI_sI, if_pos ⟨.refl _, .refl _⟩]
  · rw [hI_sI, if_neg (by omega)]; exact n5
  · rw [hI_sI, if_neg (by omega)]; exact n6
theorem lp_716 (H : isLP h x s) (v : Int) : isLP (sI h 716 x v) x (s.1, s.2.1, s.2.2.1, (s.2.2.2.1, v, s.2.2.2.2.2)) := by
  obtain ⟨n1, n2, n3, n4, n5, n6⟩ := H.2.1
  refine lp_nums H (jFI_I h 716 x v) ⟨?_, ?_, ?_, ?_, ?_, ?_⟩
  · rw [hI_sI, if_neg (by omega)]; exact n1
  · rw [hI_sI, if_neg (by omega)]; exact n2
  · rw [hI_sI, if_neg (by omega)]; exact n3
  · rw [hI_sI, if_neg (by omega)]; exact n4
  · rw [hI_sI, if_pos ⟨.refl _, .refl _⟩]
  · rw [hI_sI, if_neg (by omega)]; exact n6
theorem lp_717 (H : isLP h x s) (v : Int) : isLP (sI h 717 x v) x (s.1, s.2.1, s.2.2.1, (s.2.2.2.1, s.2.2.2.2.1, v)) := by
  obtain ⟨n1, n2, n3, n4, n5, n6⟩ := H.2.1
  refine lp_nums H (jFI_I h 717 x v) ⟨?_, ?_, ?_, ?_, ?_, ?_⟩
  · rw [hI_sI, if_neg (by omega)]; exact n1
  · rw [hI_sI, if_neg (by omega)]; exact n2
  · rw [hI_sI, if_neg (by omega)]; exact n3
  · rw [hI_sI, if_neg (by omega)]; exact n4
  · rw [hI_sI, if_neg (by omega)]; exact n5
  · rw [hI_sI, if_pos ⟨.refl _, .refl _⟩]
end U5
