/-! THE READER OF TEXTS: its face -/
section X15
variable {d : Nat} {h : jH} {Q : jO → jH → Prop} {T q q0 cap : Nat} {br br0 asks : Bool} {clk clk0 p0 : Int} {t : List Int}
theorem s9_readText (htb : ∀ x ∈ t, 0 ≤ x ∧ x < 256) (htl : t.length ≤ 5000) (hclk : 1950 ≤ clk ∧ clk ≤ 2200) (hqT : q + 2 ≤ T ∨ T + 66 ≤ q) (H : isTR h T q0 br0 clk0 p0) (S : trSh h T) (R : isRow h q cap t)
    (k : ∀ h' p', jFr T (T + 66) h h' → isTR h' T q br clk p' → trSh h' T → ((rtF t br clk asks 21 0 [] []).2 = none → isLab h' (T + 1) (rtF t br clk asks 21 0 [] []).1) → fl0 h' T (rtF t br clk asks 21 0 [] []).2 → Q (.inl none) h') : jCall (d + 9) mX9_readText [jR T, jR q, jI (b2i br), jI (b2i asks), jI clk] h Q := by
  obtain ⟨q1, q2, q3, q4, q5, q6, q7⟩ := H
  obtain ⟨S1, ps0, S2⟩ := S
  have H1 : isTR (sI (sI (sI (sI (sI (sR h 602 T q) 603 T (b2i br)) 604 T clk) 605 T 0) 606 T 0) 607 T (-1)) T q br clk 0 := by
    refine ⟨q1, ?_, ?_, ?_, ?_, ?_, ?_⟩
    · show hR (sR h 602 T q) 600 T = _
      rw [hR_sR, if_neg (by omega)]; exact q2
    · show hR (sR h 602 T q) 601 T = _
      rw [hR_sR, if_neg (by omega)]; exact q3
    · show hR (sR h 602 T q) 602 T = _
      rw [hR_sR, if_pos ⟨.refl _, .refl _⟩]
    · simp [hI_sI]
    · simp [hI_sI]
    · simp [hI_sI]
  have f0 : jFr T (T + 1) h (sI (sI (sI (sI (sI (sR h 602 T q) 603 T (b2i br)) 604 T clk) 605 T 0) 606 T 0) 607 T (-1)) := by
    refine ⟨.refl _, .refl _, .refl _, .refl _, fun o ho => ⟨fun f => ⟨?_, ?_⟩, fun i => ⟨.refl _, .refl _⟩⟩⟩
    · rw [hI_sI, if_neg (by omega), hI_sI, if_neg (by omega), hI_sI, if_neg (by omega), hI_sI, if_neg (by omega), hI_sI, if_neg (by omega)]; rfl
    · show hR (sR h 602 T q) f o = _
      rw [hR_sR, if_neg (by omega)]
  have L1 := f0.labSh S1 (by omega)
  have P1 := f0.row S2 (by omega)
  refine bX9_readText (fun _ _ _ _ => ⟨q1, b2i_rg br, ?_⟩)
  rw [show hR (sR h 602 T q) 600 T = T + 1 from H1.2.1]
  refine ⟨S1.1, s6_clear L1 (fun h2 f2 L2 => ⟨rfl, ?_⟩)⟩
  have H2 := f2.tr H1 (by omega)
  have P2 := f2.row P1 (by omega)
  refine ⟨H2.1, ?_⟩
  rw [H2.2.2.1]
  refine ⟨P2.1, s7_clear P2 (fun h3 f3 P3 => ⟨rfl, ?_⟩)⟩
  have H3 := f3.tr H2 (by omega)
  have f03 : jFr T (T + 66) h h3 := (f0.mono (by omega) (by omega)).trans ((f2.fr.mono (by omega) (by omega)).trans (f3.fr.mono (by omega) (by omega)))
  have w := fun f => ((f3.2.2.2.2.2.2 T (by omega)).1 f).trans ((f2.2.2.2.2.2.2 T (by omega)).1 f)
  exact s9_rt_loop (d := d) htb htl hclk hqT 21 0 h3 [] [] (by omega) (by omega) (by omega) H3 (f03.row R (by omega)) ⟨f3.lab L2 (by omega), P3, rfl⟩ (by rw [w]; simp [hI_sI]) (by rw [w]; simp [hI_sI]) (fun h' p' f4 a b c e => k h' p' (f03.trans f4) a b c e)
theorem s9_faultSort (hT : hK h T = 7) (k : Q (.inl (some (jI (hI h 606 T)))) h) : jCall d mX9_faultSort [jR T] h Q := bX9_faultSort (fun _ => ⟨hT, fun _ => k⟩)
theorem s9_faultPlace (hT : hK h T = 7) (k : Q (.inl (some (jI (hI h 607 T)))) h) : jCall d mX9_faultPlace [jR T] h Q := bX9_faultPlace (fun _ => ⟨hT, fun _ => k⟩)
theorem s9_label {p : Int} (H : isTR h T q br clk p) (k : Q (.inl (some (jR (T + 1)))) h) : jCall d mX9_label [jR T] h Q := bX9_label (fun _ => ⟨H.1, by rw [H.2.1]; exact k⟩)
end X15
section P15
variable {d : Nat} {h : jH} {Q : jO → jH → Prop} {P B q : Nat} {lo wi : Int} {fr : Bool} {cs : List Int}
theorem s0_faultSort (hP : hK h P = 1) (k : Q (.inl (some (jI (hI h 7 P)))) h) : jCall d mX0_faultSort [jR P] h Q := bX0_faultSort (fun _ => ⟨hP, fun _ => k⟩)
theorem s0_faultPlace (hP : hK h P = 1) (k : Q (.inl (some (jI (hI h 8 P)))) h) : jCall d mX0_faultPlace [jR P] h Q := bX0_faultPlace (fun _ => ⟨hP, fun _ => k⟩)
theorem s0_isFromRight (H : isBR h P B q lo wi fr) (k : Q (.inl (some (jI (b2i fr)))) h) : jCall d mX0_isFromRight [jR P] h Q := bX0_isFromRight (fun _ => ⟨H.1, fun _ => by rw [H.2.2.2.2.2.2.2]; exact ⟨b2i_rg fr, k⟩⟩)
theorem s0_characters (H : isBR h P B q lo wi fr) (C : isRow h (P + 1) 100 cs) (k : Q (.inl (some (jI cs.length))) h) : jCall (d + 1) mX0_characters [jR P] h Q := bX0_characters (fun _ => ⟨H.1, by rw [H.2.2.1]; exact ⟨C.1, s7_count C ⟨_, rfl, k⟩⟩⟩)
end P15
