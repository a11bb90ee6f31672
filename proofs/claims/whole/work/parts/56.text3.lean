/-! THE READER OF TEXTS: elements -/
theorem partV_ln {ln j : Int} (h : partV ln j ≠ 0) : 0 ≤ ln ∧ 0 ≤ j ∧ j < 4 := by
  unfold partV at h
  split at h
  · unfold cellV at h
    split at h
    · omega
    · omega
  · omega
section X11
variable {d : Nat} {Q : jO → jH → Prop} {T q cap e : Nat} {br : Bool} {clk a dg : Int} {t : List Int}
theorem s9_rv_loop (heT : T + 1 ≤ e) (hqT : q + 2 ≤ T ∨ e + 3 ≤ q) (htb : ∀ x ∈ t, 0 ≤ x ∧ x < 256) (hclk : 1950 ≤ clk ∧ clk ≤ 2200) (f : Nat) : ∀ (j : Nat) (v : List Int) (p : Int) (h : jH), j + f = 4 → (v.length : Int) ≤ sumM (lineV a dg) j → (∀ x ∈ v, 0 ≤ x ∧ x < 256) → 0 ≤ p → p + 200 * f ≤ 99000 → isTR h T q br clk p → isRow h q cap t → isEl h e (a, dg, v, clk) →
    (∀ h', jFP (fun o => o = T ∨ (e + 1 ≤ o ∧ o < e + 3)) h h' → isTR h' T q br clk (rvF t br clk a dg f j v p).2.1 → isEl h' e (a, dg, (rvF t br clk a dg f j v p).1, clk) → fl9 h h' T (rvF t br clk a dg f j v p).2.2 → Q (.inl (some (jI (b2i (rvF t br clk a dg f j v p).2.2.isNone)))) h') → jWp (d + 8) mX9_readValue 7 [(0, jR T), (1, jR e), (2, jR (e + 1)), (3, jI j)] [] h Q := by
  have lr := lineV_rg a dg
  have ends : ∀ (v : List Int) (p : Int) (h : jH), 0 ≤ p → p ≤ 99000 → isTR h T q br clk p → isRow h q cap t → isEl h e (a, dg, v, clk) → (∀ h', jFP (fun o => o = T ∨ (e + 1 ≤ o ∧ o < e + 3)) h h' → isTR h' T q br clk (finV t br a dg v p).2.1 → isEl h' e (a, dg, (finV t br a dg v p).1, clk) → fl9 h h' T (finV t br a dg v p).2.2 → Q (.inl (some (jI (b2i (finV t br a dg v p).2.2.isNone)))) h') →
      hK h T = 7 ∧ (j32 (hI h 603 T) → (((hI h 603 T) ≠ 0 → jWp (d + 8) mX9_readValue 107 [(0, jR T)] [] h Q) ∧ ((hI h 603 T) = 0 → hK h e = 3 ∧ jCall (d + 7) mX4_isFixed [jR e] h (fun o h97 => ∃ v97, o = .inl (some (jI v97)) ∧ ((v97 = 0 → jWp (d + 8) mX9_readValue 107 [(0, jR T)] [] h97 Q) ∧ (¬ (v97 = 0) → jWp (d + 8) mX9_readValue 108 [(0, jR T)] [jI 1] h97 Q)))))) := fun v p h h0 h1 H R E k =>
    s9_fin (d := d + 5) (v := v) (Or.inr heT) ⟨h0, by omega⟩ H R E (fun h' f1 H1 F1 => k h' (f1.mono (fun o z => Or.inl z)) H1 (isEl.upd f1 (by omega) E (f1.row E.2.2.1 (by omega) (by omega))) F1)
  induction f with
  | zero =>
    intro j v p h hj hv vb h0 h1 H R E k
    exact bX9_readValue_7 (fun _ _ => ⟨fun _ => ends v p h h0 (by omega) H R E k, fun z => by omega⟩)
  | succ f ih =>
    intro j v p h hj hv vb h0 h1 H R E k
    obtain ⟨q1, q2, q3, q4, q5, q6, q7⟩ := id H
    unfold rvF at k
    have nn := partV_nn (ln := lineV a dg) (by omega) j
    have stop : (partV (lineV a dg) j = 0 ∨ (2 ≤ partV (lineV a dg) j % 10 ∧ ovB t br p = true)) → hK h T = 7 ∧ (j32 (hI h 603 T) → (((hI h 603 T) ≠ 0 → jWp (d + 8) mX9_readValue 107 [(0, jR T)] [] h Q) ∧ ((hI h 603 T) = 0 → hK h e = 3 ∧ jCall (d + 7) mX4_isFixed [jR e] h (fun o h97 => ∃ v97, o = .inl (some (jI v97)) ∧ ((v97 = 0 → jWp (d + 8) mX9_readValue 107 [(0, jR T)] [] h97 Q) ∧ (¬ (v97 = 0) → jWp (d + 8) mX9_readValue 108 [(0, jR T)] [jI 1] h97 Q)))))) := fun z => by
      rw [if_pos z] at k
      exact ends v p h h0 (by omega) H R E k
    have main : ¬ (partV (lineV a dg) j = 0 ∨ (2 ≤ partV (lineV a dg) j % 10 ∧ ovB t br p = true)) → hK h (e + 1) = 6 ∧ jCall (d + 7) mX7_count [jR (e + 1)] h (fun o h46 => ∃ v46, o = .inl (some (jI v46)) ∧ hK h46 T = 7 ∧ (j32 (hI h46 605 T) → jCall (d + 7) mX9_readPart [jR T, jR (e + 1), jI (partV (lineV a dg) j)] h46 (fun o h61 => ∃ v61, o = .inl (some (jI v61)) ∧ ((v61 = 0 → Q (.inl (some (jI 0))) h61) ∧ (¬ (v61 = 0) → hK h61 T = 7 ∧ jCall (d + 7) mX9_judgePart [jR T, jR (e + 1), jI (partV (lineV a dg) j), jI v46, jI (hI h46 605 T)] h61 (fun o h75 => ∃ v75, o = .inl (some (jI v75)) ∧ ((v75 ≠ 0 → j32 ((j : Int) + 1) ∧ jWp (d + 8) mX9_readValue 7 [(0, jR T), (1, jR e), (2, jR (e + 1)), (3, jI ((j : Int) + 1))] [] h75 Q) ∧ (v75 = 0 → Q (.inl (some (jI 0))) h75)))))))) := fun z => by
      rw [if_neg z] at k
      have pl := partV_ln (fun w => z (Or.inl w))
      have m := mostV_rg (p := partV (lineV a dg) j)
      have s4 : sumM (lineV a dg) (j + 1) ≤ 90 := by
        have s1 := sumM4 (lineV a dg).toNat (by omega)
        rw [Int.toNat_of_nonneg (by omega)] at s1
        have s2 := sumM_mono (lineV a dg) (j + 1) (3 - j)
        rw [show j + 1 + (3 - j) = 4 by omega] at s2
        omega
      have s5 : sumM (lineV a dg) (j + 1) = sumM (lineV a dg) j + mostV (partV (lineV a dg) j) := rfl
      refine ⟨E.2.2.1.1, s7_count E.2.2.1 ⟨_, rfl, q1, fun _ => bX9_readPart (fun _ _ => s9_rp_loop (d := d) nn (r := e + 1) (by omega) (by omega) (by omega) htb (mostV (partV (lineV a dg) j)).toNat 0 v p h (by omega) (by omega) h0 (by omega) H R E.2.2.1 (fun h' f1 H1 V1 F1 => ⟨_, rfl, ?_⟩))⟩⟩
      have rr := rpF_rg t br (partV (lineV a dg) j) (mostV (partV (lineV a dg) j)).toNat 0 v p
      have rm := rpF_mem (t := t) (br := br) (part := partV (lineV a dg) j) htb (mostV (partV (lineV a dg) j)).toNat 0 v p h0 vb
      have f1' : jFP (fun o => o = T ∨ (e + 1 ≤ o ∧ o < e + 3)) h h' := f1.mono (fun o z => by omega)
      have E1 := isEl.upd f1' (by omega) E V1
      rw [q7]
      generalize hr : rpF t br (partV (lineV a dg) j) (mostV (partV (lineV a dg) j)).toNat 0 v p = rp at *
      cases hf : rp.2.2 with
      | some x =>
        rw [hf] at F1
        simp only [hf] at k
        exact ⟨fun _ => k h' f1' H1 E1 F1, fun w => absurd (show b2i (some x).isNone = 0 from rfl) w⟩
      | none =>
        rw [hf] at F1
        simp only [hf] at k
        refine ⟨fun w => absurd w (by show ¬ b2i true = 0; decide), fun _ => ⟨H1.1, s9_judgePart (d := d + 4) (f := (v.length : Int)) nn (by omega) (by omega) hclk rm H1 V1 (fun h2 f2 H2 F2 => ⟨_, rfl, ?_⟩)⟩⟩
        have f12 : jFP (fun o => o = T ∨ (e + 1 ≤ o ∧ o < e + 3)) h h2 := f1'.trans (f2.mono (fun o z => Or.inl z))
        have V2 := f2.row V1 (by omega) (by omega)
        have E2 := isEl.upd f12 (by omega) E V2
        cases hj : jpV rp.1 (partV (lineV a dg) j) v.length p rp.2.1 clk with
        | some x =>
          rw [hj] at F2
          simp only [hj] at k
          exact ⟨fun w => absurd (show b2i (some x).isNone = 0 from rfl) w, fun _ => k h2 f12 H2 E2 (F2.pre F1.1 F1.2)⟩
        | none =>
          rw [hj] at F2
          simp only [hj] at k
          refine ⟨fun _ => ⟨⟨by omega, by omega⟩, ?_⟩, fun w => absurd w (by show ¬ b2i true = 0; decide)⟩
          exact ih (j + 1) rp.1 rp.2.1 h2 (by omega) (by omega) rm (by omega) (by omega) H2 (f12.row R (by omega) (by omega)) E2 (fun h3 f3 H3 E3 F3 => k h3 (f12.trans f3) H3 E3 (F3.pre (F2.1.trans F1.1) (F2.2.trans F1.2)))
    refine bX9_readValue_7 (fun _ _ => ⟨fun z => by omega, fun z => ⟨E.1, s4_line E ⟨_, rfl, s8_partAt (ln := lineV a dg) (by omega) (by omega) ⟨_, rfl, fun z2 => stop (Or.inl z2), fun z2 => s8_mayBeLeftOut nn ⟨_, rfl, fun z3 => main ?_, fun z3 => ⟨q1, s9_over H R ⟨_, rfl, fun z4 => main ?_, fun z4 => stop (Or.inr ⟨?_, (b2i_ne _).mp z4⟩)⟩⟩⟩⟩⟩⟩⟩)
    · have w : ¬ 2 ≤ partV (lineV a dg) j % 10 := of_decide_eq_false ((b2i_eq _).mp z3)
      rintro (y | y)
      · exact z2 y
      · exact w y.1
    · have := (b2i_eq _).mp z4
      rintro (w | w)
      · exact z2 w
      · rw [this] at w
        exact absurd w.2 (by decide)
    · exact of_decide_eq_true ((b2i_ne _).mp z3)
theorem s9_readValue {p : Int} {h : jH} (heT : T + 1 ≤ e) (hqT : q + 2 ≤ T ∨ e + 3 ≤ q) (htb : ∀ x ∈ t, 0 ≤ x ∧ x < 256) (hclk : 1950 ≤ clk ∧ clk ≤ 2200) (h0 : 0 ≤ p) (h1 : p ≤ 98000) (H : isTR h T q br clk p) (R : isRow h q cap t) (E : isEl h e (a, dg, [], clk))
    (k : ∀ h', jFP (fun o => o = T ∨ (e + 1 ≤ o ∧ o < e + 3)) h h' → isTR h' T q br clk (rvF t br clk a dg 4 0 [] p).2.1 → isEl h' e (a, dg, (rvF t br clk a dg 4 0 [] p).1, clk) → fl9 h h' T (rvF t br clk a dg 4 0 [] p).2.2 → Q (.inl (some (jI (b2i (rvF t br clk a dg 4 0 [] p).2.2.isNone)))) h') : jCall (d + 8) mX9_readValue [jR T, jR e] h Q :=
  bX9_readValue (fun _ => ⟨E.1, s4_value E.sh ⟨_, rfl, s9_rv_loop heT hqT htb hclk 4 0 [] p h (by omega) (by simp [sumM]) (fun x hx => by simp at hx) h0 (by omega) H R E k⟩⟩)
end X11
