/-! THE READER OF BARS: the frame, the string -/
def jfV (cs ps : List Int) : Option (Int × Int) :=
  if (cs.length : Int) - 2 < 1 ∨ lAt cs (cs.length - 2) ≠ chkV cs (cs.length - 2) then some (14, lAt ps (cs.length - 2))
  else if (cs.length : Int) - 2 = 1 ∨ lAt cs 1 ≠ 102 then some (15, lAt ps 1) else none
def rbV (t : List Int) : List Int × List Int × Int × Int :=
  if wiV t = 0 then ([], [], 11, 0)
  else
    let r := rcF t (lzV t) (wiV t) (frV t (lzV t) (wiV t)) 100 0 [] []
    match r.2.2 with
    | some (a, b) => (r.1, r.2.1, a, b)
    | none => match jfV r.1 r.2.1 with
      | some (a, b) => (r.1, r.2.1, a, b)
      | none => (r.1, r.2.1, 0, -1)
theorem idxI_rg (p : Int) : ∀ (l : List Int) (i : Nat), -1 ≤ idxI p l i ∧ idxI p l i < i + l.length
  | [], i => by simp [idxI]; omega
  | x :: t, i => by
    have := idxI_rg p t (i + 1)
    unfold idxI
    simp only [List.length_cons]
    split <;> omega
theorem chaV_rg {t : List Int} {lo wi : Int} {fr : Bool} {i : Int} : -1 ≤ chaV t lo wi fr i ∧ chaV t lo wi fr i ≤ 106 := by
  have := idxI_rg (patA t lo wi fr i 11) patL 0
  rw [patL_len] at this
  unfold chaV
  split <;> omega
theorem rcF_cs (t : List Int) (lo wi : Int) (fr : Bool) : ∀ (f : Nat) (i : Int) (cs ps : List Int), (∀ x ∈ cs, 0 ≤ x ∧ x ≤ 106) → ∀ x ∈ (rcF t lo wi fr f i cs ps).1, 0 ≤ x ∧ x ≤ 106
  | 0, i, cs, ps, h => h
  | f + 1, i, cs, ps, h => by
    have cr := chaV_rg (t := t) (lo := lo) (wi := wi) (fr := fr) (i := i)
    unfold rcF
    by_cases z : badC t lo wi fr i cs.length = true
    · rw [if_pos z]; exact h
    · rw [if_neg z]
      have nc : chaV t lo wi fr i ≠ -1 := fun e => z (by unfold badC; rw [decide_eq_true e]; rfl)
      by_cases y : stpB t lo wi fr i = true
      · rw [if_pos y]
        intro x hx
        rcases List.mem_append.mp hx with e | e
        · exact h x e
        · rw [List.mem_singleton.mp e]; omega
      · rw [if_neg y]
        refine rcF_cs t lo wi fr f _ _ _ (fun x hx => ?_)
        rcases List.mem_append.mp hx with e | e
        · exact h x e
        · rw [List.mem_singleton.mp e]; omega
theorem rcF_len (t : List Int) (lo wi : Int) (fr : Bool) : ∀ (f : Nat) (i : Int) (cs ps : List Int), ps.length = cs.length → (rcF t lo wi fr f i cs ps).1.length ≤ cs.length + f ∧ (rcF t lo wi fr f i cs ps).2.1.length = (rcF t lo wi fr f i cs ps).1.length
  | 0, i, cs, ps, h => ⟨by simp [rcF], h⟩
  | f + 1, i, cs, ps, h => by
    unfold rcF
    by_cases z : badC t lo wi fr i cs.length = true
    · rw [if_pos z]; exact ⟨by simp, h⟩
    · rw [if_neg z]
      by_cases y : stpB t lo wi fr i = true
      · rw [if_pos y]
        simp only [List.length_append, List.length_singleton]
        omega
      · rw [if_neg y]
        have := rcF_len t lo wi fr f (i + 11) (cs ++ [chaV t lo wi fr i]) (ps ++ [plcV lo wi fr i]) (by simp [h])
        simp only [List.length_append, List.length_singleton] at this
        omega
section P2
variable {d : Nat} {h : jH} {Q : jO → jH → Prop} {P B q cap : Nat} {lo wi : Int} {fr : Bool} {t cs ps : List Int}
theorem s0_judgeFrame (H : isBR h P B q lo wi fr) (C : isRow h (P + 1) 100 cs) (S : isRow h (P + 3) 100 ps) (hc : ∀ x ∈ cs, 0 ≤ x ∧ x ≤ 106)
    (k : ∀ h', jFI P (P + 1) h h' → isBR h' P B q lo wi fr → fltO h h' P (jfV cs ps) → Q (.inl none) h') : jCall (d + 2) mX0_judgeFrame [jR P] h Q := by
  have cl := C.2.2.2.2.2.1
  have note : ∀ a b : Int, jfV cs ps = some (a, b) → Q (.inl none) (sI (sI h 7 P a) 8 P b) := fun a b e => k _ (jFI_note h P a b) ((H.setF (Or.inl rfl)).setF (Or.inr rfl)) (by
    rw [e]
    refine ⟨?_, ?_⟩
    · rw [hI_sI, if_neg (by omega), hI_sI, if_pos ⟨.refl _, .refl _⟩]
    · rw [hI_sI, if_pos ⟨.refl _, .refl _⟩])
  have f14 : ((cs.length : Int) - 2 < 1 ∨ lAt cs (cs.length - 2) ≠ chkV cs (cs.length - 2)) → hK h P = 1 ∧ hK h (hR h 2 P) = 6 ∧ jCall (d + 1) mX7_at [jR (hR h 2 P), jI ((cs.length : Int) - 2)] h (fun o h42 => ∃ v42, o = .inl (some (jI v42)) ∧ hK h42 P = 1 ∧ jCall (d + 1) mX0_noteFault [jR P, jI 14, jI v42] h42 (fun o h45 => o = .inl none ∧ Q (.inl none) h45)) := fun z => by
    rw [H.2.2.2.1]
    exact ⟨H.1, S.1, s7_at S ⟨_, rfl, H.1, s0_noteFault H.1 ⟨rfl, note _ _ (by unfold jfV; rw [if_pos z])⟩⟩⟩
  have f15 : ¬ ((cs.length : Int) - 2 < 1 ∨ lAt cs (cs.length - 2) ≠ chkV cs (cs.length - 2)) → ((cs.length : Int) - 2 = 1 ∨ lAt cs 1 ≠ 102) → hK h P = 1 ∧ hK h (hR h 2 P) = 6 ∧ jCall (d + 1) mX7_at [jR (hR h 2 P), jI 1] h (fun o h42 => ∃ v42, o = .inl (some (jI v42)) ∧ hK h42 P = 1 ∧ jCall (d + 1) mX0_noteFault [jR P, jI 15, jI v42] h42 (fun o h45 => o = .inl none ∧ Q (.inl none) h45)) := fun z z2 => by
    rw [H.2.2.2.1]
    exact ⟨H.1, S.1, s7_at S ⟨_, rfl, H.1, s0_noteFault H.1 ⟨rfl, note _ _ (by unfold jfV; rw [if_neg z, if_pos z2])⟩⟩⟩
  refine bX0_judgeFrame (fun _ => ⟨H.1, ?_⟩)
  rw [H.2.2.1]
  refine ⟨C.1, s7_count C ⟨_, rfl, ⟨by omega, by omega⟩, fun z => f14 (Or.inl z), fun z => ⟨H.1, ?_⟩⟩⟩
  rw [H.2.2.1]
  refine ⟨C.1, s7_at C ⟨_, rfl, H.1, ?_⟩⟩
  rw [H.2.2.1]
  refine s2_check (fun i => by have := lAt_all (a := -1) (b := 106) (fun x hx => by have := hc x hx; omega) (by decide) (by decide) (l := cs) i; omega) (by omega) C ⟨_, rfl, fun z2 => ⟨fun z3 => f15 (by omega) (Or.inl z3), fun z3 => ⟨H.1, ?_⟩⟩, fun z2 => f14 (Or.inr z2)⟩
  rw [H.2.2.1]
  refine ⟨C.1, s7_at C ⟨_, rfl, fun z4 => ?_, fun z4 => f15 (by omega) (Or.inr z4)⟩⟩
  exact k h .rfl H (by unfold jfV; rw [if_neg (by omega), if_neg (by omega)]; exact ⟨rfl, rfl⟩)
theorem s0_readBars {q0 : Nat} {lo0 wi0 : Int} {fr0 : Bool} {cs0 ps0 : List Int} (hq : q + 2 ≤ P ∨ P + 5 ≤ q) (hB : B + 2 ≤ P ∨ P + 5 ≤ B) (ht : bitL t) (hl : t.length ≤ 10000) (H : isBR h P B q0 lo0 wi0 fr0) (R : isRow h q cap t) (HB : isBars h B) (C : isRow h (P + 1) 100 cs0) (S : isRow h (P + 3) 100 ps0)
    (k : ∀ h' fr', jFr P (P + 5) h h' → isBR h' P B q (lzV t) (wiV t) fr' → (wiV t ≠ 0 → fr' = frV t (lzV t) (wiV t)) → isRow h' (P + 1) 100 (rbV t).1 → isRow h' (P + 3) 100 (rbV t).2.1 → flt h' P (rbV t).2.2.1 (rbV t).2.2.2 → Q (.inl none) h') : jCall (d + 4) mX0_readBars [jR P, jR q] h Q := by
  have H1 : isBR (sR h 3 P q) P B q lo0 wi0 fr0 := by
    obtain ⟨q1, q2, q3, q4, q5, q6, q7, q8⟩ := H
    exact ⟨q1, by rw [hR_sR, if_neg (by omega)]; exact q2, by rw [hR_sR, if_neg (by omega)]; exact q3, by rw [hR_sR, if_neg (by omega)]; exact q4, by rw [hR_sR, if_pos ⟨.refl _, .refl _⟩], q6, q7, q8⟩
  have f0 : jFr P (P + 1) h (sR h 3 P q) := ⟨.refl _, .refl _, .refl _, .refl _, fun o ho => ⟨fun f => ⟨.refl _, by rw [hR_sR, if_neg (by omega)]⟩, fun i => ⟨.refl _, .refl _⟩⟩⟩
  refine bX0_readBars (fun _ => ⟨H.1, ?_⟩)
  rw [H1.2.2.1]
  have C1 := f0.row C (by omega)
  have S1 := f0.row S (by omega)
  refine ⟨C1.1, s7_clear C1 (fun h2 f2 C2 => ⟨rfl, ?_⟩)⟩
  have H2 := f2.fr.br H1 (by omega)
  have S2 := f2.row S1 (by omega)
  refine ⟨H2.1, ?_⟩
  rw [H2.2.2.2.1]
  refine ⟨S2.1, s7_clear S2 (fun h3 f3 S3 => ⟨rfl, ?_⟩)⟩
  have H3 := f3.fr.br H2 (by omega)
  have C3 := f3.row C2 (by omega)
  refine ⟨H3.1, s0_noteFault H3.1 ⟨rfl, H3.1, ?_⟩⟩
  have f4 := jFI_note h3 P 0 (-1)
  have H4 := (H3.setF (f := 7) (v := 0) (Or.inl rfl)).setF (f := 8) (v := -1) (Or.inr rfl)
  have f04 : jFr P (P + 5) h (sI (sI h3 7 P 0) 8 P (-1)) := (f0.mono (by omega) (by omega)).trans ((f2.fr.mono (by omega) (by omega)).trans ((f3.fr.mono (by omega) (by omega)).trans (f4.fr.mono (by omega) (by omega))))
  refine s0_leaveOutEnds (by omega) H4 (f04.row R (by omega)) (fun h5 f5 e7 e8 H5 => ⟨rfl, H5.1, fun _ => ?_⟩)
  have C5 := f5.row (f4.row C3 (by omega)) (by omega)
  have S5 := f5.row (f4.row S3 (by omega)) (by omega)
  have f05 := f04.trans (f5.fr.mono (a' := P) (b' := P + 5) (by omega) (by omega))
  rw [H5.2.2.2.2.2.2.1]
  have wr := wiV_rg t
  have R5 := f05.row R (by omega)
  have HB5 := f05.bars HB (by omega)
  have g7 : hI h5 7 P = 0 := by rw [e7, hI_sI, if_neg (by omega), hI_sI, if_pos ⟨.refl _, .refl _⟩]
  have g8 : hI h5 8 P = -1 := by rw [e8, hI_sI, if_pos ⟨.refl _, .refl _⟩]
  refine ⟨fun z => ?_, fun z => ?_⟩
  · refine s0_chooseSide (by omega) (by omega) ht (by omega) H5 R5 HB5 (by omega) ⟨by omega, by omega⟩ (fun h6 f6 e7 e8 H6 => ⟨rfl, H6.1, ?_⟩)
    have f06 := f05.trans (f6.fr.mono (a' := P) (b' := P + 5) (by omega) (by omega))
    have C6 := f6.row C5 (by omega)
    have S6 := f6.row S5 (by omega)
    have rl := rcF_len t (lzV t) (wiV t) (frV t (lzV t) (wiV t)) 100 0 [] [] rfl
    have rcs := rcF_cs t (lzV t) (wiV t) (frV t (lzV t) (wiV t)) 100 0 [] [] (fun x hx => by simp at hx)
    have go : jCall (d + 3) mX0_readCharacters [jR P] h6 (fun o h49 => ∃ v49, o = .inl (some (jI v49)) ∧ ((v49 = 0 → Q (.inl none) h49) ∧ (¬ (v49 = 0) → hK h49 P = 1 ∧ jCall (d + 3) mX0_judgeFrame [jR P] h49 (fun o h56 => o = .inl none ∧ Q (.inl none) h56)))) := by
      refine bX0_readCharacters (fun _ => s0_rc_loop (d := d + 1) hq hB ht hl (by omega) ⟨by omega, by omega⟩ 100 h6 0 [] [] rfl rfl rfl H6 (f06.row R (by omega)) (f06.bars HB (by omega)) C6 S6 (fun h7 f7 H7 C7 S7 F7 => ⟨_, rfl, ?_⟩))
      have f07 := f06.trans f7.fr
      have rb : rbV t = (match (rcF t (lzV t) (wiV t) (frV t (lzV t) (wiV t)) 100 0 [] []).2.2 with
        | some (a, b) => ((rcF t (lzV t) (wiV t) (frV t (lzV t) (wiV t)) 100 0 [] []).1, (rcF t (lzV t) (wiV t) (frV t (lzV t) (wiV t)) 100 0 [] []).2.1, a, b)
        | none => match jfV (rcF t (lzV t) (wiV t) (frV t (lzV t) (wiV t)) 100 0 [] []).1 (rcF t (lzV t) (wiV t) (frV t (lzV t) (wiV t)) 100 0 [] []).2.1 with
          | some (a, b) => ((rcF t (lzV t) (wiV t) (frV t (lzV t) (wiV t)) 100 0 [] []).1, (rcF t (lzV t) (wiV t) (frV t (lzV t) (wiV t)) 100 0 [] []).2.1, a, b)
          | none => ((rcF t (lzV t) (wiV t) (frV t (lzV t) (wiV t)) 100 0 [] []).1, (rcF t (lzV t) (wiV t) (frV t (lzV t) (wiV t)) 100 0 [] []).2.1, 0, -1)) := by
        unfold rbV
        rw [if_neg (by omega)]
      generalize hr : rcF t (lzV t) (wiV t) (frV t (lzV t) (wiV t)) 100 0 [] [] = r at *
      cases hf : r.2.2 with
      | some ab =>
        rw [hf] at F7 rb
        refine ⟨fun _ => k h7 _ f07 H7 (fun _ => rfl) ?_ ?_ ?_, fun y => absurd (show b2i (some ab).isNone = 0 from rfl) y⟩
        · rw [rb]; exact C7
        · rw [rb]; exact S7
        · rw [rb]; exact F7
      | none =>
        rw [hf] at F7 rb
        refine ⟨fun y => absurd y (by show ¬ b2i true = 0; decide), fun _ => ⟨H7.1, s0_judgeFrame (d := d + 1) H7 C7 S7 rcs (fun h8 f8 H8 F8 => ⟨rfl, ?_⟩)⟩⟩
        have f08 := f07.trans (f8.fr.mono (a' := P) (b' := P + 5) (by omega) (by omega))
        have C8 := f8.row C7 (by omega)
        have S8 := f8.row S7 (by omega)
        cases hj : jfV r.1 r.2.1 with
        | some ab =>
          rw [hj] at F8 rb
          refine k h8 _ f08 H8 (fun _ => rfl) ?_ ?_ ?_
          · rw [rb]; exact C8
          · rw [rb]; exact S8
          · rw [rb]; exact F8
        | none =>
          rw [hj] at F8 rb
          refine k h8 _ f08 H8 (fun _ => rfl) ?_ ?_ ?_
          · rw [rb]; exact C8
          · rw [rb]; exact S8
          · rw [rb]
            exact ⟨by rw [F8.1, F7.1, e7]; exact g7, by rw [F8.2, F7.2, e8]; exact g8⟩
    exact go
  · refine s0_noteFault H5.1 ⟨rfl, ?_⟩
    have f6 := jFI_note h5 P 11 0
    have rb : rbV t = ([], [], 11, 0) := by
      unfold rbV
      rw [if_pos (by omega)]
    refine k _ fr0 (f05.trans (f6.fr.mono (by omega) (by omega))) ((H5.setF (Or.inl rfl)).setF (Or.inr rfl)) (fun y => absurd (show wiV t = 0 by omega) y) ?_ ?_ ?_
    · rw [rb]; exact f6.row C5 (by omega)
    · rw [rb]; exact f6.row S5 (by omega)
    · rw [rb]
      refine ⟨?_, ?_⟩
      · rw [hI_sI, if_neg (by omega), hI_sI, if_pos ⟨.refl _, .refl _⟩]
      · rw [hI_sI, if_pos ⟨.refl _, .refl _⟩]
end P2
