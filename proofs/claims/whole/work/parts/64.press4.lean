/-! THE PRESS: read -/
theorem jtF_ne {es : List jE} {ps : List Int} {asks : Bool} : ∀ (n k : Nat) {a b : Int}, jtF es ps asks n k = some (a, b) → 1 ≤ a
  | 0, _, _, _, h => by cases h
  | n + 1, k, a, b, h => by
    unfold jtF at h
    by_cases z : repB es k = true
    · rw [if_pos z] at h
      cases h
      omega
    · rw [if_neg z] at h
      by_cases y : asks = true ∧ metW es k = false
      · rw [if_pos y] at h
        cases h
        omega
      · rw [if_neg y] at h
        exact jtF_ne n (k + 1) h
theorem rpF_ne {t : List Int} {br : Bool} {part : Int} : ∀ (f n : Nat) (v : List Int) (p : Int) {a b : Int}, (rpF t br part f n v p).2.2 = some (a, b) → 1 ≤ a
  | 0, _, _, _, _, _, h => by cases h
  | f + 1, n, v, p, a, b, h => by
    unfold rpF at h
    by_cases z : ovB t br p = true
    · rw [if_pos z] at h
      by_cases w : 0 < n ∧ part % 2 ≠ 0
      · rw [if_pos w] at h; cases h
      · rw [if_neg w] at h; cases h; omega
    · rw [if_neg z] at h
      by_cases y : fitB (if esB t br p = true then 40 else lAt t p) (part / 1000) = true
      · rw [if_pos y] at h
        exact rpF_ne f (n + 1) _ _ h
      · rw [if_neg y] at h; cases h; omega
theorem jpV_ne {v : List Int} {part f b p clk a c : Int} (h : jpV v part f b p clk = some (a, c)) : 1 ≤ a := by
  unfold jpV at h
  by_cases z : part / 1000 = 3
  · rw [if_pos z] at h
    by_cases y : keyB v f = true
    · rw [if_pos y] at h; cases h
    · rw [if_neg y] at h; cases h; omega
  · rw [if_neg z] at h
    by_cases z2 : part / 1000 = 4
    · rw [if_pos z2] at h
      by_cases y : dtB v f clk = true
      · rw [if_pos y] at h; cases h
      · rw [if_neg y] at h; cases h; omega
    · rw [if_neg z2] at h
      by_cases z3 : part / 1000 = 5
      · rw [if_pos z3] at h
        by_cases y : tiB v f = true
        · rw [if_pos y] at h; cases h
        · rw [if_neg y] at h; cases h; omega
      · rw [if_neg z3] at h; cases h
theorem finV_ne {t : List Int} {br : Bool} {a dg : Int} {v : List Int} {p b c : Int} (h : (finV t br a dg v p).2.2 = some (b, c)) : 1 ≤ b := by
  unfold finV at h
  by_cases z : ((!br && fixV a dg) || ovB t br p) = true
  · simp only [if_pos z] at h; cases h
  · simp only [if_neg z] at h; cases h; omega
theorem rvF_ne {t : List Int} {br : Bool} {clk a dg : Int} : ∀ (f j : Nat) (v : List Int) (p : Int) {b c : Int}, (rvF t br clk a dg f j v p).2.2 = some (b, c) → 1 ≤ b
  | 0, _, _, _, _, _, h => finV_ne h
  | f + 1, j, v, p, b, c, h => by
    unfold rvF at h
    by_cases z : partV (lineV a dg) j = 0 ∨ (2 ≤ partV (lineV a dg) j % 10 ∧ ovB t br p = true)
    · rw [if_pos z] at h
      exact finV_ne h
    · rw [if_neg z] at h
      cases hf : (rpF t br (partV (lineV a dg) j) (mostV (partV (lineV a dg) j)).toNat 0 v p).2.2 with
      | some x =>
        simp only [hf] at h
        cases h
        exact rpF_ne _ _ _ _ hf
      | none =>
        simp only [hf] at h
        cases hj : jpV (rpF t br (partV (lineV a dg) j) (mostV (partV (lineV a dg) j)).toNat 0 v p).1 (partV (lineV a dg) j) v.length p (rpF t br (partV (lineV a dg) j) (mostV (partV (lineV a dg) j)).toNat 0 v p).2.1 clk with
        | some x =>
          simp only [hj] at h
          cases h
          exact jpV_ne hj
        | none =>
          simp only [hj] at h
          exact rvF_ne f (j + 1) _ _ h
theorem aiN_ne {t : List Int} {p dg np : Int} {n : Nat} {a b : Int} (h : aiN t p dg np n = .inl (a, b)) : 1 ≤ a := by
  unfold aiN at h
  by_cases z : lnA t p dg = -1
  · rw [if_pos z] at h; cases h; omega
  · rw [if_neg z] at h
    by_cases y : n = 20
    · rw [if_pos y] at h; cases h; omega
    · rw [if_neg y] at h; cases h
theorem aiV_ne {t : List Int} {br : Bool} {p : Int} {n : Nat} {a b : Int} (h : aiV t br p n = .inl (a, b)) : 1 ≤ a := by
  unfold aiV at h
  cases br with
  | true =>
    rw [if_pos rfl] at h
    unfold aiB at h
    by_cases z : lAt t p ≠ 40
    · rw [if_pos z] at h; cases h; omega
    · rw [if_neg z] at h
      by_cases y : t.length ≤ p + 1
      · rw [if_pos y] at h; cases h; omega
      · rw [if_neg y] at h
        cases hh : aiN t (p + 1) (clF t t.length (p + 1) - (p + 1)) (clF t t.length (p + 1) + 1) n with
        | inl x =>
          rw [hh] at h
          cases h
          exact aiN_ne hh
        | inr x =>
          rw [hh] at h
          by_cases w : t.length ≤ clF t t.length (p + 1)
          · simp only [if_pos w] at h; cases h; omega
          · simp only [if_neg w] at h; cases h
  | false =>
    rw [if_neg (by decide)] at h
    unfold aiP at h
    by_cases z : t.length ≤ p
    · rw [if_pos z] at h; cases h; omega
    · rw [if_neg z] at h
      exact aiN_ne h
theorem rtF_ne {t : List Int} {br : Bool} {clk : Int} {asks : Bool} : ∀ (f : Nat) (p : Int) (es : List jE) (ps : List Int) {a b : Int}, (rtF t br clk asks f p es ps).2 = some (a, b) → 1 ≤ a
  | 0, _, _, _, _, _, h => jtF_ne _ _ h
  | f + 1, p, es, ps, a, b, h => by
    unfold rtF at h
    cases hx : aiV t br p es.length with
    | inl x =>
      simp only [hx] at h
      cases h
      exact aiV_ne hx
    | inr x =>
      obtain ⟨x1, x2, x3, x4⟩ := x
      simp only [hx] at h
      cases hv : (rvF t br clk x1 x2 4 0 [] x4).2.2 with
      | some y =>
        simp only [hv] at h
        cases h
        exact rvF_ne _ _ _ _ hv
      | none =>
        simp only [hv] at h
        by_cases w : t.length ≤ (rvF t br clk x1 x2 4 0 [] x4).2.1
        · rw [if_pos w] at h
          exact jtF_ne _ _ h
        · rw [if_neg w] at h
          exact rtF_ne f _ _ _ h
def accV (s : jP) (r : List jE × Option (Int × Int)) : Int × jP := match r.2 with
  | none => ((r.1.length : Int), (s.1, (r.1, s.2.1.2), (s.2.2.1.1, 0, -1), s.2.2.2))
  | some (a, b) => (-1, (s.1, s.2.1, (s.2.2.1.1, a, b), s.2.2.2))
section U4
variable {d x : Nat} {h : jH} {Q : jO → jH → Prop} {s : jP}
theorem u_accept {r : List jE × Option (Int × Int)} (H : isLP h x s) (F : fl0 h (x + 642) r.2) (L : r.2 = none → isLab h (x + 643) r.1) (N : ∀ a b, r.2 = some (a, b) → 1 ≤ a) (k : ∀ h', jFr x (x + 74) h h' → isLP h' x (accV s r).2 → Q (.inl (some (jI (accV s r).1))) h') : jCall (d + 4) mX10_acceptText [jR x] h Q := by
  obtain ⟨⟨tq, tbr, tclk, tp, TR⟩, TS⟩ := H.2.2.2.2.2.2.2.2.2.2.2.1
  have x9 := H.1.2.2.2.2.2.2.2.2.2.1
  have x6 := H.1.2.2.2.2.2.2.1
  have f1 : jFI x (x + 1) h (sI (sI h 713 x (hI h 606 (x + 642))) 714 x (hI h 607 (x + 642))) := (jFI_I h 713 x _).trans (jFI_I _ 714 x _)
  have H1 : isLP (sI (sI h 713 x (hI h 606 (x + 642))) 714 x (hI h 607 (x + 642))) x (s.1, s.2.1, (s.2.2.1.1, hI h 606 (x + 642), hI h 607 (x + 642)), s.2.2.2) := by
    obtain ⟨n1, n2, n3, n4, n5, n6⟩ := H.2.1
    refine lp_nums H f1 ⟨?_, ?_, ?_, ?_, ?_, ?_⟩
    · rw [hI_sI, if_neg (by omega), hI_sI, if_neg (by omega)]; exact n1
    · rw [hI_sI, if_neg (by omega), hI_sI, if_pos ⟨.refl _, .refl _⟩]
    · rw [hI_sI, if_pos ⟨.refl _, .refl _⟩]
    · rw [hI_sI, if_neg (by omega), hI_sI, if_neg (by omega)]; exact n4
    · rw [hI_sI, if_neg (by omega), hI_sI, if_neg (by omega)]; exact n5
    · rw [hI_sI, if_neg (by omega), hI_sI, if_neg (by omega)]; exact n6
  refine bX10_acceptText (fun _ => ⟨H.1.1, ?_⟩)
  rw [x9]
  refine ⟨TR.1, s9_faultSort TR.1 ⟨_, rfl, H.1.1, ?_⟩⟩
  rw [x9]
  refine ⟨TR.1, s9_faultPlace TR.1 ⟨_, rfl, H.1.1, bX10_noteFault (fun _ _ _ => ⟨H.1.1, rfl, H1.1.1, fun _ => ?_⟩)⟩⟩
  rw [H1.2.1.2.1]
  unfold accV at k
  obtain ⟨es, o⟩ := r
  cases o with
  | none =>
    have e1 : hI h 606 (x + 642) = 0 := F.1
    have e2 : hI h 607 (x + 642) = -1 := F.2
    refine ⟨fun _ => ?_, fun z => absurd e1 z⟩
    rw [e1, e2] at H1 f1 ⊢
    have TR1 : isTR (sI (sI h 713 x 0) 714 x (-1)) (x + 642) tq tbr tclk tp := f1.tr TR (by omega)
    have L1 : isLab (sI (sI h 713 x 0) 714 x (-1)) (x + 643) es := f1.lab (L rfl) (by omega)
    rw [H1.1.2.2.2.2.2.2.2.2.2.1]
    refine ⟨TR1.1, s9_label TR1 ⟨_, rfl, ?_⟩⟩
    rw [H1.1.2.2.2.2.2.2.1]
    refine ⟨H1.2.2.2.2.2.2.2.1.1.1, s6_copyFrom (L := x + 11) (M := x + 643) (by omega) H1.2.2.2.2.2.2.2.1.1 L1 (fun h2 f2 L2 => ⟨rfl, ?_⟩)⟩
    have H2 := lp_list H1 f2.fr L2
    refine ⟨H2.1.1, ?_⟩
    rw [H2.1.2.2.2.2.2.2.1]
    exact ⟨L2.1.1, s6_count L2 ⟨_, rfl, k h2 ((f1.fr.mono (by omega) (by omega)).trans (f2.fr.mono (by omega) (by omega))) H2⟩⟩
  | some ab =>
    obtain ⟨a, b⟩ := ab
    have e1 : hI h 606 (x + 642) = a := F.1
    have e2 : hI h 607 (x + 642) = b := F.2
    have na := N a b rfl
    refine ⟨fun z => absurd (show hI h 606 (x + 642) = 0 from z) (by omega), fun _ => ?_⟩
    rw [e1, e2] at H1 f1 ⊢
    exact k _ (f1.fr.mono (by omega) (by omega)) H1
def readV (s : jP) (br : Bool) : Int × jP := accV (([], s.1.2), s.2) (rtF s.1.1 br s.2.2.1.1 true 21 0 [] [])
theorem u_read {br : Bool} (hb : ∀ y ∈ s.1.1, 0 ≤ y ∧ y < 256) (hc : 1950 ≤ s.2.2.1.1 ∧ s.2.2.1.1 ≤ 2200) (H : isLP h x s) (k : ∀ h', jFr x (x + 724) h h' → isLP h' x (readV s br).2 → Q (.inl (some (jI (readV s br).1))) h') : jCall (d + 10) mX10_read [jR x, jI (b2i br)] h Q := by
  obtain ⟨⟨tq, tbr, tclk, tp, TR⟩, TS⟩ := H.2.2.2.2.2.2.2.2.2.2.2.1
  have tl := H.2.2.1.2.2.2.2.2.1
  refine bX10_read (fun _ _ => ⟨H.1.1, fun _ => ?_⟩)
  rw [H.1.2.2.2.2.2.2.2.2.2.1, H.1.2.1, H.2.1.1]
  refine ⟨TR.1, s9_readText (asks := true) hb (by omega) hc (by omega) TR TS H.2.2.1 (fun h1 p1 f1 T1 S1 L1 F1 => ⟨rfl, ?_⟩)⟩
  have H1 : isLP h1 x s := by
    obtain ⟨k0, k1, k2, k3, k4, k5, k6, k7, k8, k9, k10, k11, k12, k13, k14⟩ := H.keep f1
    exact ⟨k0 (by omega), k1 (by omega), k2 (by omega), k3 (by omega), k4 (by omega), k5 (by omega), k6 (by omega), k7 (by omega), k8 (by omega), k9 (by omega), k10 (by omega), ⟨⟨_, _, _, _, T1⟩, S1⟩, k12 (by omega), k13 (by omega), k14 (by omega)⟩
  refine ⟨H1.1.1, ?_⟩
  rw [H1.1.2.1]
  refine ⟨H1.2.2.1.1, s7_clear H1.2.2.1 (fun h2 f2 R2 => ⟨rfl, ?_⟩)⟩
  have H2 := lp_tape H1 f2 R2
  have w := (f2.2.2.2.2.2.2 (x + 642) (by omega)).1
  refine ⟨H2.1.1, u_accept (d := d + 5) (r := rtF s.1.1 br s.2.2.1.1 true 21 0 [] []) H2 ?_ (fun z => f2.lab (L1 z) (by omega)) (fun a b z => rtF_ne _ _ _ _ z) (fun h3 f3 H3 => ⟨_, rfl, k h3 ((f1.mono (by omega) (by omega)).trans ((f2.fr.mono (by omega) (by omega)).trans (f3.mono (by omega) (by omega)))) H3⟩)⟩
  cases hh : (rtF s.1.1 br s.2.2.1.1 true 21 0 [] []).2 with
  | none => rw [hh] at F1; exact ⟨(w 606).trans F1.1, (w 607).trans F1.2⟩
  | some ab => rw [hh] at F1; exact ⟨(w 606).trans F1.1, (w 607).trans F1.2⟩
end U4
