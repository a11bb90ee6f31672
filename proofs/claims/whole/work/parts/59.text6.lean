/-! THE READER OF TEXTS: a whole text -/
def aiV (t : List Int) (br : Bool) (p : Int) (n : Nat) : (Int × Int) ⊕ (Int × Int × Int × Int) := if br = true then aiB t p n else aiP t p n
def rtF (t : List Int) (br : Bool) (clk : Int) (asks : Bool) : Nat → Int → List jE → List Int → List jE × Option (Int × Int)
  | 0, _, es, ps => (es, jtF es ps asks es.length 0)
  | f + 1, p, es, ps => match aiV t br p es.length with
    | .inl x => (es, some x)
    | .inr (a, dg, pa, p1) => match (rvF t br clk a dg 4 0 [] p1).2.2 with
      | some x => (es, some x)
      | none => if t.length ≤ (rvF t br clk a dg 4 0 [] p1).2.1 then (es ++ [(a, dg, (rvF t br clk a dg 4 0 [] p1).1, clk)], jtF (es ++ [(a, dg, (rvF t br clk a dg 4 0 [] p1).1, clk)]) (ps ++ [pa]) asks (es ++ [(a, dg, (rvF t br clk a dg 4 0 [] p1).1, clk)]).length 0)
        else rtF t br clk asks f (if br = false ∧ lAt t (rvF t br clk a dg 4 0 [] p1).2.1 = 29 then (rvF t br clk a dg 4 0 [] p1).2.1 + 1 else (rvF t br clk a dg 4 0 [] p1).2.1) (es ++ [(a, dg, (rvF t br clk a dg 4 0 [] p1).1, clk)]) (ps ++ [pa])
theorem rvF_rg (t : List Int) (br : Bool) (clk a dg : Int) : ∀ (f j : Nat) (v : List Int) (p : Int), p ≤ (rvF t br clk a dg f j v p).2.1 ∧ (rvF t br clk a dg f j v p).2.1 ≤ p + 200 * f
  | 0, j, v, p => by simp [rvF, finV]
  | f + 1, j, v, p => by
    have m := mostV_rg (p := partV (lineV a dg) j)
    have rr := rpF_rg t br (partV (lineV a dg) j) (mostV (partV (lineV a dg) j)).toNat 0 v p
    unfold rvF
    by_cases z : partV (lineV a dg) j = 0 ∨ (2 ≤ partV (lineV a dg) j % 10 ∧ ovB t br p = true)
    · rw [if_pos z]
      exact ⟨Int.le_refl _, by show p ≤ _; omega⟩
    · rw [if_neg z]
      generalize rpF t br (partV (lineV a dg) j) (mostV (partV (lineV a dg) j)).toNat 0 v p = rp at *
      cases hf : rp.2.2 with
      | some x => exact ⟨by show p ≤ rp.2.1; omega, by show rp.2.1 ≤ _; omega⟩
      | none =>
        cases hj : jpV rp.1 (partV (lineV a dg) j) v.length p rp.2.1 clk with
        | some x => exact ⟨by show p ≤ rp.2.1; omega, by show rp.2.1 ≤ _; omega⟩
        | none =>
          have := rvF_rg t br clk a dg f (j + 1) rp.1 rp.2.1
          exact ⟨by show p ≤ (rvF t br clk a dg f (j + 1) rp.1 rp.2.1).2.1; omega, by show (rvF t br clk a dg f (j + 1) rp.1 rp.2.1).2.1 ≤ _; omega⟩
theorem aiN_rg {t : List Int} {p dg np : Int} {n : Nat} {a b c e : Int} (h : aiN t p dg np n = .inr (a, b, c, e)) : e = np := by
  unfold aiN at h
  split at h
  · cases h
  · split at h
    · cases h
    · cases h
      rfl
theorem aiV_rg {t : List Int} {br : Bool} {p : Int} {n : Nat} {a b c e : Int} (hp : 0 ≤ p) (h : aiV t br p n = .inr (a, b, c, e)) : 0 ≤ e ∧ e ≤ t.length + 4 := by
  unfold aiV at h
  cases br with
  | true =>
    rw [if_pos rfl] at h
    unfold aiB at h
    by_cases z : lAt t p ≠ 40
    · rw [if_pos z] at h; cases h
    · rw [if_neg z] at h
      by_cases y : t.length ≤ p + 1
      · rw [if_pos y] at h; cases h
      · rw [if_neg y] at h
        have cr := clF_rg t t.length (p + 1)
        generalize clF t t.length (p + 1) = C at *
        cases hh : aiN t (p + 1) (C - (p + 1)) (C + 1) n with
        | inl x => rw [hh] at h; cases h
        | inr x =>
          obtain ⟨x1, x2, x3, x4⟩ := x
          rw [hh] at h
          have := aiN_rg hh
          by_cases w : t.length ≤ C
          · simp only [if_pos w] at h; cases h
          · simp only [if_neg w] at h
            cases h
            omega
  | false =>
    rw [if_neg (by decide)] at h
    unfold aiP at h
    by_cases z : t.length ≤ p
    · rw [if_pos z] at h; cases h
    · rw [if_neg z] at h
      have := aiN_rg h
      have : 2 ≤ plD t p ∧ plD t p ≤ 4 := by
        unfold plD
        by_cases y1 : lnA t p 2 ≠ -1
        · rw [if_pos y1]; omega
        · rw [if_neg y1]
          by_cases y2 : lnA t p 3 ≠ -1
          · rw [if_pos y2]; omega
          · rw [if_neg y2]; omega
      omega
theorem jFP.el {S : Nat → Prop} {h h1 : jH} (p : jFP S h h1) {e : Nat} {x : jE} (E : isEl h e x) (h0 : ¬ S e) (h1' : ¬ S (e + 1)) (h2 : ¬ S (e + 2)) : isEl h1 e x := by
  obtain ⟨q1, q2, q3, q4, q5, q6, q7, q8, q9⟩ := E
  have r := p.row q3 h1' h2
  obtain ⟨p1, p2, p3, p4, p5, p6, p7⟩ := p
  have w := (p7 e h0).1
  exact ⟨by rw [p3]; exact q1, by rw [p1]; exact q2, r, by rw [w]; exact q4, by rw [w]; exact q5, by rw [w]; exact q6, by rw [w]; exact q7, by rw [w]; exact q8, q9⟩
theorem jFP.sh {S : Nat → Prop} {h h1 : jH} (p : jFP S h h1) {e : Nat} (E : shEl h e) (h0 : ¬ S e) (h1' : ¬ S (e + 1)) (h2 : ¬ S (e + 2)) : shEl h1 e := by
  obtain ⟨q1, q2, l, q3⟩ := E
  have r := p.row q3 h1' h2
  obtain ⟨p1, p2, p3, p4, p5, p6, p7⟩ := p
  exact ⟨by rw [p3]; exact q1, by rw [p1]; exact q2, l, r⟩
theorem trOK.upd {h h2 : jH} {T e : Nat} {es : List jE} {ps : List Int} {x y : jE} (O : trOK h T (es ++ [x]) ps) (he : e = elV h (T + 1) es.length) (f : jFP (fun o => o = T ∨ (e + 1 ≤ o ∧ o < e + 3)) h h2) (E : isEl h2 e y) : trOK h2 T (es ++ [y]) ps := by
  obtain ⟨⟨⟨q1, q2, q3, q4, q5, q6, q7, q8, q9, q10⟩, c1, c2, c3⟩, O2, O3⟩ := id O
  have ll : (es ++ [x]).length = (es ++ [y]).length := by simp
  have l20 : es.length < 20 := by simp at c2; omega
  have rg := O.1.1.rg (k := es.length) l20
  have P2 := f.row O2 (by omega) (by omega)
  have ev : ∀ k, elV h2 (T + 1) k = elV h (T + 1) k := fun k => by unfold elV; rw [f.2.1]
  have f' := f
  obtain ⟨p1, p2, p3, p4, p5, p6, p7⟩ := f'
  refine ⟨⟨⟨by rw [p3]; exact q1, by rw [p1]; exact q2, by rw [p1]; exact q3, by rw [p3]; exact q4, by rw [p3]; exact q5, by rw [p4]; exact q6, by rw [p4]; exact q7, fun k hk => by rw [ev]; exact q8 k hk, fun i hi j hj w => q9 i hi j hj (by rw [← ev, ← ev]; exact w), fun j hj => ?_⟩, by rw [(p7 (T + 1) (by omega)).1, ← ll]; exact c1, by rw [← ll]; exact c2, fun k hk => ?_⟩, P2, by rw [← ll]; exact O3⟩
  · obtain ⟨j2, hj2, e2⟩ := q8 es.length l20
    by_cases w : j = j2
    · subst w
      rw [← e2, ← he]
      exact E.sh
    · exact f.sh (q10 j hj) (by omega) (by omega) (by omega)
  · rw [ev]
    simp at hk
    by_cases w : k = es.length
    · subst w
      rw [← he, List.getD_eq_getElem?_getD, List.getElem?_append_right (Nat.le_refl _)]
      simpa using E
    · have := c3 k (by simp; omega)
      rw [List.getD_eq_getElem?_getD, List.getElem?_append_left (by omega)] at this
      rw [List.getD_eq_getElem?_getD, List.getElem?_append_left (by omega)]
      have ne := O.1.1.ne (i := k) (k := es.length) (by omega) l20 w
      have rk := O.1.1.rg (k := k) (by omega)
      exact f.el this (by omega) (by omega) (by omega)
def fl0 (h : jH) (T : Nat) : Option (Int × Int) → Prop
  | none => hI h 606 T = 0 ∧ hI h 607 T = -1
  | some (a, b) => hI h 606 T = a ∧ hI h 607 T = b
theorem fl9.to0 {h h1 : jH} {T : Nat} {o : Option (Int × Int)} (p : fl9 h h1 T o) (a : hI h 606 T = 0) (b : hI h 607 T = -1) : fl0 h1 T o := by
  cases o with
  | none => exact ⟨p.1.trans a, p.2.trans b⟩
  | some x => exact p
section X14
variable {d : Nat} {Q : jO → jH → Prop} {T q cap : Nat} {br asks : Bool} {clk : Int} {t : List Int}
theorem s9_rt_loop (htb : ∀ x ∈ t, 0 ≤ x ∧ x < 256) (htl : t.length ≤ 5000) (hclk : 1950 ≤ clk ∧ clk ≤ 2200) (hqT : q + 2 ≤ T ∨ T + 66 ≤ q) (f : Nat) : ∀ (p : Int) (h : jH) (es : List jE) (ps : List Int), f ≤ 21 → 0 ≤ p → p ≤ 9000 → isTR h T q br clk p → isRow h q cap t → trOK h T es ps → hI h 606 T = 0 → hI h 607 T = -1 →
    (∀ h' p', jFr T (T + 66) h h' → isTR h' T q br clk p' → trSh h' T → ((rtF t br clk asks f p es ps).2 = none → isLab h' (T + 1) (rtF t br clk asks f p es ps).1) → fl0 h' T (rtF t br clk asks f p es ps).2 → Q (.inl none) h') → jWp (d + 9) mX9_readText 48 [(0, jR T), (3, jI (b2i asks)), (5, jI (21 - f))] [] h Q := by
  have judge : ∀ (h0 h : jH) (p : Int) (es : List jE) (ps : List Int), jFr T (T + 66) h0 h → isTR h T q br clk p → trOK h T es ps → hI h 606 T = 0 → hI h 607 T = -1 → (∀ h' p', jFr T (T + 66) h0 h' → isTR h' T q br clk p' → trSh h' T → (jtF es ps asks es.length 0 = none → isLab h' (T + 1) es) → fl0 h' T (jtF es ps asks es.length 0) → Q (.inl none) h') → hK h T = 7 ∧ jCall (d + 8) mX9_judgeTogether [jR T, jI (b2i asks)] h (fun o h148 => o = .inl none ∧ Q (.inl none) h148) := fun h0 h p es ps f0 H O z6 z7 k =>
    ⟨H.1, s9_judgeTogether (d := d + 4) H O (fun h' f1 H1 F1 => ⟨rfl, k h' p (f0.trans (f1.fr.mono (by omega) (by omega))) H1 (f1.trOK O (by omega)).sh (fun _ => (f1.trOK O (by omega)).1) (F1.to0 z6 z7)⟩)⟩
  induction f with
  | zero =>
    intro p h es ps hf h0 h1 H R O z6 z7 k
    exact bX9_readText_48 (fun _ _ _ => ⟨fun _ => judge h h p es ps .rfl H O z6 z7 k, fun z => by omega⟩)
  | succ f ih =>
    intro p h es ps hf h0 h1 H R O z6 z7 k
    obtain ⟨q1, q2, q3, q4, q5, q6, q7⟩ := id H
    unfold rtF at k
    have bad : ∀ x, aiV t br p es.length = .inl x → ∀ h' p', jFr T (T + 66) h h' → isTR h' T q br clk p' → trSh h' T → fl9 h h' T (some x) → Q (.inl none) h' := fun x hx h' p' f1 H1 S1 F1 => by
      rw [hx] at k
      exact k h' p' f1 H1 S1 (fun w => by cases w) (F1.to0 z6 z7)
    have good : ∀ a dg pa p1, aiV t br p es.length = .inr (a, dg, pa, p1) → es.length < 20 → ∀ h', jFr T (T + 66) h h' → isTR h' T q br clk p1 → trOK h' T (es ++ [(a, dg, [], clk)]) (ps ++ [pa]) → fl9 h h' T none →
        hK h' T = 7 ∧ jCall (d + 8) mX9_readValue [jR T, jR (elV h' (T + 1) es.length)] h' (fun o h83 => ∃ v83, o = .inl (some (jI v83)) ∧ ((v83 ≠ 0 → hK h83 T = 7 ∧ (j32 (hI h83 605 T) → hK h83 (hR h83 602 T) = 6 ∧ jCall (d + 8) mX7_count [jR (hR h83 602 T)] h83 (fun o h98 => ∃ v98, o = .inl (some (jI v98)) ∧ (((hI h83 605 T) < v98 → hK h98 T = 7 ∧ (j32 (hI h98 603 T) → (((hI h98 603 T) ≠ 0 → jWp (d + 9) mX9_readText 140 [(0, jR T), (3, jI (b2i asks)), (5, jI (21 - ((f + 1 : Nat) : Int)))] [] h98 Q) ∧ ((hI h98 603 T) = 0 → (j32 (hI h98 605 T) → hK h98 (hR h98 602 T) = 6 ∧ jCall (d + 8) mX7_at [jR (hR h98 602 T), jI (hI h98 605 T)] h98 (fun o h122 => ∃ v122, o = .inl (some (jI v122)) ∧ ((v122 ≠ 29 → jWp (d + 9) mX9_readText 140 [(0, jR T), (3, jI (b2i asks)), (5, jI (21 - ((f + 1 : Nat) : Int)))] [] h122 Q) ∧ (v122 = 29 → hK h122 T = 7 ∧ (j32 (hI h122 605 T) → j32 ((hI h122 605 T) + 1) ∧ jWp (d + 9) mX9_readText 140 [(0, jR T), (3, jI (b2i asks)), (5, jI (21 - ((f + 1 : Nat) : Int)))] [] (sI h122 605 T ((hI h122 605 T) + 1)) Q))))))))) ∧ (¬ ((hI h83 605 T) < v98) → hK h98 T = 7 ∧ jCall (d + 8) mX9_judgeTogether [jR T, jI (b2i asks)] h98 (fun o h148_1 => o = .inl none ∧ Q (.inl none) h148_1)))))) ∧ (v83 = 0 → Q (.inl none) h83))) := by
      intro a dg pa p1 hx hn h' f1 H1 O1 F1
      have pr := aiV_rg h0 hx
      have rg := O1.1.1.rg (k := es.length) (by omega)
      have E1 : isEl h' (elV h' (T + 1) es.length) (a, dg, [], clk) := by
        have := O1.1.2.2.2 es.length (by simp)
        rw [List.getD_eq_getElem?_getD, List.getElem?_append_right (Nat.le_refl _)] at this
        simpa using this
      have vr := rvF_rg t br clk a dg 4 0 [] p1
      simp only [hx] at k
      refine ⟨H1.1, s9_readValue (d := d) (by omega) (by omega) htb hclk pr.1 (by omega) H1 (f1.row R (by omega)) E1 (fun h2 f2 H2 E2 F2 => ⟨_, rfl, ?_⟩)⟩
      have f12 : jFr T (T + 66) h h2 := f1.trans (f2.fr (fun o z => by omega))
      have O2 := O1.upd (y := (a, dg, (rvF t br clk a dg 4 0 [] p1).1, clk)) rfl f2 E2
      have R2 := f12.row R (by omega)
      generalize rvF t br clk a dg 4 0 [] p1 = rv at *
      cases hv : rv.2.2 with
      | some x =>
        rw [hv] at F2
        simp only [hv] at k
        exact ⟨fun w => absurd (show b2i (some x).isNone = 0 from rfl) w, fun _ => k h2 _ f12 H2 O2.sh (fun w => by cases w) ((F2.pre F1.1 F1.2).to0 z6 z7)⟩
      | none =>
        rw [hv] at F2
        simp only [hv] at k
        have y6 : hI h2 606 T = 0 := (F2.1.trans F1.1).trans z6
        have y7 : hI h2 607 T = -1 := (F2.2.trans F1.2).trans z7
        refine ⟨fun _ => ⟨H2.1, fun _ => ?_⟩, fun w => absurd w (by show ¬ b2i true = 0; decide)⟩
        rw [H2.2.2.2.1, H2.2.2.2.2.2.2]
        refine ⟨R2.1, s7_count R2 ⟨_, rfl, fun y => ⟨H2.1, fun _ => ?_⟩, fun y => ?_⟩⟩
        · rw [if_neg (by omega)] at k
          rw [H2.2.2.2.1, H2.2.2.2.2.1, H2.2.2.2.2.2.2]
          have more : br = true ∨ lAt t rv.2.1 ≠ 29 → jWp (d + 9) mX9_readText 140 [(0, jR T), (3, jI (b2i asks)), (5, jI (21 - ((f + 1 : Nat) : Int)))] [] h2 Q := fun w => by
            rw [if_neg (fun v => by rcases w with w | w; (rw [w] at v; exact absurd v.1 (by decide)); exact w v.2)] at k
            refine bX9_readText_140 (fun _ _ _ => ⟨⟨by omega, by omega⟩, ?_⟩)
            rw [show (21 - ((f + 1 : Nat) : Int) + 1) = 21 - f by omega]
            exact ih rv.2.1 h2 _ _ (by omega) (by omega) (by omega) H2 R2 O2 y6 y7 (fun h3 p3 f3 H3 S3 L3 F3 => k h3 p3 (f12.trans f3) H3 S3 L3 F3)
          refine ⟨fun w => more (Or.inl ((b2i_ne _).mp w)), fun w => fun _ => ⟨R2.1, s7_at R2 ⟨_, rfl, fun u => more (Or.inr u), fun u => ⟨H2.1, fun _ => ?_⟩⟩⟩⟩
          rw [if_pos ⟨(b2i_eq _).mp w, u⟩] at k
          rw [H2.2.2.2.2.2.2]
          have f3 := jFI_I h2 605 T (rv.2.1 + 1)
          have f13 : jFr T (T + 66) h (sI h2 605 T (rv.2.1 + 1)) := f12.trans (f3.fr.mono (by omega) (by omega))
          refine ⟨⟨by omega, by omega⟩, bX9_readText_140 (fun _ _ _ => ⟨⟨by omega, by omega⟩, ?_⟩)⟩
          rw [show (21 - ((f + 1 : Nat) : Int) + 1) = 21 - f by omega]
          exact ih (rv.2.1 + 1) _ _ _ (by omega) (by omega) (by omega) (H2.setP _) (f13.row R (by omega)) (f3.trOK O2 (by omega)) (by rw [hI_sI, if_neg (by omega)]; exact y6) (by rw [hI_sI, if_neg (by omega)]; exact y7) (fun h3 p3 f3 H3 S3 L3 F3 => k h3 p3 (f13.trans f3) H3 S3 L3 F3)
        · rw [if_pos (by omega)] at k
          exact judge h h2 _ _ _ f12 H2 O2 y6 y7 k
    refine bX9_readText_48 (fun _ _ _ => ⟨fun z => by omega, fun _ => ⟨q1, fun _ => ?_⟩⟩)
    rw [q5]
    refine ⟨fun z => ?_, fun z => ?_⟩
    · have e : br = false := (b2i_eq _).mp z
      have av : aiV t br p es.length = aiP t p es.length := by unfold aiV; rw [e, if_neg (by decide)]
      rw [av] at bad good
      refine s9_readPlainAi (d := d + 4) (by omega) hqT H R O (fun x hx h' p' f1 H1 S1 F1 => ⟨_, rfl, fun _ => bad x hx h' p' f1 H1 S1 F1, fun w => absurd rfl w⟩) (fun a dg pa p' hx hn h' f1 H1 O1 F1 => ⟨_, rfl, fun w => ?_, fun _ => good a dg pa p' hx hn h' f1 H1 O1 F1⟩)
      have rg := O1.1.1.rg (k := es.length) (by omega)
      omega
    · have e : br = true := (b2i_ne _).mp z
      have av : aiV t br p es.length = aiB t p es.length := by unfold aiV; rw [e, if_pos rfl]
      rw [av] at bad good
      refine s9_readBracketedAi (d := d + 4) (by omega) (by omega) hqT H R O (fun x hx h' p' f1 H1 S1 F1 => ⟨_, rfl, fun _ => bad x hx h' p' f1 H1 S1 F1, fun w => absurd rfl w⟩) (fun a dg pa p' hx hn h' f1 H1 O1 F1 => ⟨_, rfl, fun w => ?_, fun _ => good a dg pa p' hx hn h' f1 H1 O1 F1⟩)
      have rg := O1.1.1.rg (k := es.length) (by omega)
      omega
end X14
