/-! THE READER OF BARS: characters -/
def stpB (t : List Int) (lo wi : Int) (fr : Bool) (i : Int) : Bool := decide (patA t lo wi fr i 13 = patS)
def chaV (t : List Int) (lo wi : Int) (fr : Bool) (i : Int) : Int := if stpB t lo wi fr i = true then 106 else idxI (patA t lo wi fr i 11) patL 0
def badC (t : List Int) (lo wi : Int) (fr : Bool) (i : Int) (n : Nat) : Bool := decide (chaV t lo wi fr i = -1) || !((decide (103 ≤ chaV t lo wi fr i) && !stpB t lo wi fr i) == decide (n = 0))
/-- characters, places, the fault if there is one -/
def rcF (t : List Int) (lo wi : Int) (fr : Bool) : Nat → Int → List Int → List Int → List Int × List Int × Option (Int × Int)
  | 0, i, cs, ps => (cs, ps, some (12, plcV lo wi fr (min i (wi - 1))))
  | f + 1, i, cs, ps => if badC t lo wi fr i cs.length = true then (cs, ps, some (12, plcV lo wi fr (min i (wi - 1))))
    else if stpB t lo wi fr i = true then (cs ++ [106], ps ++ [plcV lo wi fr i], if i + 13 < wi then some (13, plcV lo wi fr (i + 13)) else none)
    else rcF t lo wi fr f (i + 11) (cs ++ [chaV t lo wi fr i]) (ps ++ [plcV lo wi fr i])
/-- the fault that stands in the reader -/
def flt (h : jH) (P : Nat) (a b : Int) : Prop := hI h 7 P = a ∧ hI h 8 P = b
def fltO (h h' : jH) (P : Nat) : Option (Int × Int) → Prop
  | none => hI h' 7 P = hI h 7 P ∧ hI h' 8 P = hI h 8 P
  | some (a, b) => hI h' 7 P = a ∧ hI h' 8 P = b
section P1
variable {d : Nat} {Q : jO → jH → Prop} {P B q cap : Nat} {lo wi : Int} {fr : Bool} {t : List Int}
theorem jFI_note (h : jH) (P : Nat) (a b : Int) : jFI P (P + 1) h (sI (sI h 7 P a) 8 P b) := (jFI_I h 7 P a).trans (jFI_I _ 8 P b)
theorem s0_fail {h : jH} {cs ps : List Int} (H : isBR h P B q lo wi fr) (C : isRow h (P + 1) 100 cs) (S : isRow h (P + 3) 100 ps) (h0 : 0 ≤ lo ∧ lo ≤ 100000) (h1 : 0 ≤ wi ∧ wi ≤ 100000) {i : Int} (hi : 0 ≤ i ∧ i ≤ 100000)
    (k : ∀ h', jFI P (P + 5) h h' → isBR h' P B q lo wi fr → isRow h' (P + 1) 100 cs → isRow h' (P + 3) 100 ps → fltO h h' P (some (12, plcV lo wi fr (min i (wi - 1)))) → Q (.inl (some (jI 0))) h') :
    hK h P = 1 ∧ (j32 (hI h 5 P) → j32 ((hI h 5 P) - 1) ∧ jCall (d + 1) mJ9_min_7cf53 [jI i, jI ((hI h 5 P) - 1)] h (fun o h180 => ∃ v180, o = .inl (some (jI v180)) ∧ hK h180 P = 1 ∧ jCall (d + 1) mX0_placeOf [jR P, jI v180] h180 (fun o h183 => ∃ v183, o = .inl (some (jI v183)) ∧ hK h183 P = 1 ∧ jCall (d + 1) mX0_noteFault [jR P, jI 12, jI v183] h183 (fun o h186 => o = .inl none ∧ Q (.inl (some (jI 0))) h186)))) := by
  refine ⟨H.1, fun _ => ?_⟩
  rw [H.2.2.2.2.2.2.1]
  have f := jFI_note h P 12 (plcV lo wi fr (min i (wi - 1)))
  refine ⟨⟨by omega, by omega⟩, s9_min ⟨_, rfl, H.1, s0_placeOf H h0 h1 ⟨by omega, by omega⟩ ⟨_, rfl, H.1, s0_noteFault H.1 ⟨rfl, k _ (f.mono (by omega) (by omega)) ((H.setF (Or.inl rfl)).setF (Or.inr rfl)) (f.row C (by omega)) (f.row S (by omega)) ⟨?_, ?_⟩⟩⟩⟩⟩
  · rw [hI_sI, if_neg (by omega), hI_sI, if_pos ⟨.refl _, .refl _⟩]
  · rw [hI_sI, if_pos ⟨.refl _, .refl _⟩]
theorem s0_rc_loop (hq : q + 2 ≤ P ∨ P + 5 ≤ q) (hB : B + 2 ≤ P ∨ P + 5 ≤ B) (ht : bitL t) (hl : t.length ≤ 10000) (h0 : 0 ≤ lo) (h1 : 0 ≤ wi ∧ lo + wi ≤ t.length) (f : Nat) : ∀ (h : jH) (i : Int) (cs ps : List Int), cs.length + f = 100 → ps.length = cs.length → i = 11 * cs.length → isBR h P B q lo wi fr → isRow h q cap t → isBars h B → isRow h (P + 1) 100 cs → isRow h (P + 3) 100 ps →
    (∀ h', jFI P (P + 5) h h' → isBR h' P B q lo wi fr → isRow h' (P + 1) 100 (rcF t lo wi fr f i cs ps).1 → isRow h' (P + 3) 100 (rcF t lo wi fr f i cs ps).2.1 → fltO h h' P (rcF t lo wi fr f i cs ps).2.2 → Q (.inl (some (jI (b2i (rcF t lo wi fr f i cs ps).2.2.isNone)))) h') →
    jWp (d + 2) mX0_readCharacters 4 [(0, jR P), (1, jI i), (2, jI cs.length)] [] h Q := by
  induction f with
  | zero =>
    intro h i cs ps hn hp hi H R HB C S k
    exact bX0_readCharacters_4 (fun _ _ _ => ⟨fun _ => s0_fail H C S ⟨h0, by omega⟩ ⟨h1.1, by omega⟩ ⟨by omega, by omega⟩ k, fun z => by omega⟩)
  | succ f ih =>
    intro h i cs ps hn hp hi H R HB C S k
    unfold rcF at k
    have fail : badC t lo wi fr i cs.length = true → hK h P = 1 ∧ (j32 (hI h 5 P) → j32 ((hI h 5 P) - 1) ∧ jCall (d + 1) mJ9_min_7cf53 [jI i, jI ((hI h 5 P) - 1)] h (fun o h180 => ∃ v180, o = .inl (some (jI v180)) ∧ hK h180 P = 1 ∧ jCall (d + 1) mX0_placeOf [jR P, jI v180] h180 (fun o h183 => ∃ v183, o = .inl (some (jI v183)) ∧ hK h183 P = 1 ∧ jCall (d + 1) mX0_noteFault [jR P, jI 12, jI v183] h183 (fun o h186 => o = .inl none ∧ Q (.inl (some (jI 0))) h186)))) := fun z => by
      rw [if_pos z] at k
      exact s0_fail H C S ⟨h0, by omega⟩ ⟨h1.1, by omega⟩ ⟨by omega, by omega⟩ k
    have a85 : ∀ s1 : Int, s1 = b2i (decide (103 ≤ chaV t lo wi fr i) && !stpB t lo wi fr i) → chaV t lo wi fr i ≠ -1 → jWp (d + 2) mX0_readCharacters 85 [(0, jR P), (1, jI i), (2, jI cs.length), (3, jI (b2i (stpB t lo wi fr i))), (4, jI (chaV t lo wi fr i))] [jI (b2i (decide (cs.length = 0))), jI s1] h Q := by
      intro s1 hs1 hc
      refine bX0_readCharacters_85 (fun _ _ _ _ _ => ⟨fun z => ?_, fun z => fail ?_⟩)
      · have nb : ¬ badC t lo wi fr i cs.length = true := by
          have e : ∀ a b : Bool, b2i a = b2i b → (a == b) = true := by decide
          rw [hs1] at z
          unfold badC
          rw [e _ _ z, decide_eq_false hc]
          decide
        rw [if_neg nb] at k
        refine ⟨H.1, ?_⟩
        rw [H.2.2.1]
        refine ⟨C.1, s7_put C (fun g f1 C1 => ⟨rfl, ?_⟩)⟩
        rw [lput_app (by omega)] at C1
        have H1 := f1.fr.br H (by omega)
        have S1 := f1.row S (by omega)
        refine ⟨H1.1, s0_placeOf H1 ⟨h0, by omega⟩ ⟨h1.1, by omega⟩ ⟨by omega, by omega⟩ ⟨_, rfl, ?_⟩⟩
        rw [H1.2.2.2.1]
        refine ⟨S1.1, s7_put S1 (fun g2 f2 S2 => ⟨rfl, ?_⟩)⟩
        rw [lput_app (by omega)] at S2
        have H2 := f2.fr.br H1 (by omega)
        have C2 := f2.row C1 (by omega)
        have f12 : jFI P (P + 5) h g2 := (f1.mono (by omega) (by omega)).trans (f2.mono (by omega) (by omega))
        have R2 := f12.row R (by omega)
        have HB2 := f12.fr.bars HB (by omega)
        have e7 : hI g2 7 P = hI h 7 P := by rw [(f2.2.2.2.2.2.2 P (by omega)).1, (f1.2.2.2.2.2.2 P (by omega)).1]
        have e8 : hI g2 8 P = hI h 8 P := by rw [(f2.2.2.2.2.2.2 P (by omega)).1, (f1.2.2.2.2.2.2 P (by omega)).1]
        refine ⟨fun y => ⟨⟨by omega, by omega⟩, fun _ => ⟨⟨by omega, by omega⟩, ?_⟩, fun y2 => absurd y y2⟩, fun y => ⟨⟨by omega, by omega⟩, fun y2 => absurd y2 y, fun _ => ⟨H2.1, fun _ => ?_⟩⟩⟩
        · rw [if_neg (by rw [(b2i_eq _).mp y]; decide)] at k
          have := ih g2 (i + 11) (cs ++ [chaV t lo wi fr i]) (ps ++ [plcV lo wi fr i]) (by simp; omega) (by simp; omega) (by simp; omega) H2 R2 HB2 C2 S2 (fun h' f3 b1 b2 b3 b4 => k h' (f12.trans f3) b1 b2 b3 (by
            cases hh : (rcF t lo wi fr f (i + 11) (cs ++ [chaV t lo wi fr i]) (ps ++ [plcV lo wi fr i])).2.2 with
            | none => rw [hh] at b4; exact ⟨b4.1.trans e7, b4.2.trans e8⟩
            | some ab => rw [hh] at b4; exact b4))
          simpa using this
        · have st := (b2i_ne _).mp y
          rw [if_pos st] at k
          rw [show chaV t lo wi fr i = 106 from if_pos st] at C2
          rw [H2.2.2.2.2.2.2.1]
          refine ⟨fun z3 => ?_, fun z3 => ?_⟩
          · rw [if_neg (by omega)] at k
            refine bX0_readCharacters_149 (fun _ _ => ⟨H2.1, fun _ => ?_⟩)
            rw [H2.2.2.2.2.2.2.1]
            exact ⟨fun z4 => by omega, fun _ => bX0_readCharacters_162 (fun _ => ⟨by decide, k g2 f12 H2 C2 S2 ⟨e7, e8⟩⟩)⟩
          · rw [if_pos (by omega)] at k
            refine s0_placeOf H2 ⟨h0, by omega⟩ ⟨h1.1, by omega⟩ ⟨by omega, by omega⟩ ⟨_, rfl, H2.1, s0_noteFault H2.1 ⟨rfl, ?_⟩⟩
            have f3 := jFI_note g2 P 13 (plcV lo wi fr (i + 13))
            have H3 := (H2.setF (f := 7) (v := 13) (Or.inl rfl)).setF (f := 8) (v := plcV lo wi fr (i + 13)) (Or.inr rfl)
            refine bX0_readCharacters_149 (fun _ _ => ⟨H3.1, fun _ => ?_⟩)
            rw [H3.2.2.2.2.2.2.1]
            refine ⟨fun _ => bX0_readCharacters_162 (fun _ => ⟨by decide, k _ (f12.trans (f3.mono (by omega) (by omega))) H3 (f3.row C2 (by omega)) (f3.row S2 (by omega)) ⟨?_, ?_⟩⟩), fun z4 => by omega⟩
            · rw [hI_sI, if_neg (by omega), hI_sI, if_pos ⟨.refl _, .refl _⟩]
            · rw [hI_sI, if_pos ⟨.refl _, .refl _⟩]
      · have e : ∀ a b : Bool, ¬ b2i a = b2i b → (a == b) = false := by decide
        rw [hs1] at z
        unfold badC
        rw [e _ _ z]
        simp
    have a66 : ∀ s0 : Int, s0 = b2i (decide (103 ≤ chaV t lo wi fr i) && !stpB t lo wi fr i) → jWp (d + 2) mX0_readCharacters 66 [(0, jR P), (1, jI i), (2, jI cs.length), (3, jI (b2i (stpB t lo wi fr i))), (4, jI (chaV t lo wi fr i))] [jI s0] h Q := by
      intro s0 hs0
      refine bX0_readCharacters_66 (fun _ _ _ _ _ => ⟨fun z => fail ?_, fun z => ⟨fun z2 => ?_, fun z2 => ?_⟩⟩)
      · unfold badC
        rw [decide_eq_true z]
        rfl
      · have := a85 s0 hs0 z
        rw [decide_eq_false (by omega)] at this
        exact this
      · have := a85 s0 hs0 z
        rw [decide_eq_true (by omega)] at this
        exact this
    refine bX0_readCharacters_4 (fun _ _ _ => ⟨fun z => by omega, fun z => ⟨H.1, s0_patternAt (n := 13) ht (by omega) H R h0 h1 ⟨by omega, by omega⟩ (by decide) ⟨_, rfl, ?_⟩⟩⟩)
    rw [H.2.1]
    refine ⟨HB.1, s1_isStop HB ⟨_, rfl, fun z2 => ⟨H.1, s0_patternAt (n := 11) ht (by omega) H R h0 h1 ⟨by omega, by omega⟩ (by decide) ⟨_, rfl, ?_⟩⟩, fun z2 => ⟨fun _ => ?_, fun z3 => absurd z3 z2⟩⟩⟩
    · have ns : stpB t lo wi fr i = false := (b2i_eq _).mp z2
      have ec : chaV t lo wi fr i = idxI (patA t lo wi fr i 11) patL 0 := if_neg (by rw [ns]; decide)
      rw [H.2.1]
      refine ⟨HB.1, s1_characterOf HB ⟨_, rfl, ?_⟩⟩
      rw [← ec]
      refine ⟨fun z3 => a66 0 ?_, fun z3 => ⟨fun z4 => absurd z2 z4, fun _ => a66 1 ?_⟩⟩
      · rw [decide_eq_false (by omega)]; rfl
      · rw [decide_eq_true (by omega), ns]; rfl
    · have ns : stpB t lo wi fr i = true := (b2i_ne _).mp z2
      have := a66 0 (by rw [ns, Bool.not_true, Bool.and_false]; rfl)
      rw [show chaV t lo wi fr i = 106 from if_pos ns] at this
      exact this
end P1
