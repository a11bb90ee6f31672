/-! THE PRESS: scan, through -/
section U6
variable {d x : Nat} {h : jH} {Q : jO → jH → Prop} {s : jP}
/-- reading the string that was scanned -/
theorem u_readScan {q0 : List Int} (hb : ∀ y ∈ q0, 0 ≤ y ∧ y < 256) (hc : 1950 ≤ s.2.2.1.1 ∧ s.2.2.1.1 ≤ 2200) (H : isLP h x s) (R : isRow h (x + 7) 1900 q0) (k : ∀ h', jFr x (x + 724) h h' → isLP h' x (accV s (rtF q0 false s.2.2.1.1 false 21 0 [] [])).2 → Q (.inl (some (jI (accV s (rtF q0 false s.2.2.1.1 false 21 0 [] [])).1))) h') :
    jCall (d + 9) mX9_readText [jR (x + 642), jR (x + 7), jI 0, jI 0, jI s.2.2.1.1] h (fun o h134 => o = .inl none ∧ hK h134 x = 8 ∧ jCall (d + 9) mX10_acceptText [jR x] h134 (fun o h138 => ∃ v138, o = .inl (some (jI v138)) ∧ Q (.inl (some (jI v138))) h138)) := by
  obtain ⟨⟨tq, tbr, tclk, tp, TR⟩, TS⟩ := H.2.2.2.2.2.2.2.2.2.2.2.1
  have tl := R.2.2.2.2.2.1
  refine s9_readText (br := false) (asks := false) hb (by omega) hc (by omega) TR TS R (fun h1 p1 f1 T1 S1 L1 F1 => ⟨rfl, ?_⟩)
  have H1 : isLP h1 x s := by
    obtain ⟨k0, k1, k2, k3, k4, k5, k6, k7, k8, k9, k10, k11, k12, k13, k14⟩ := H.keep f1
    exact ⟨k0 (by omega), k1 (by omega), k2 (by omega), k3 (by omega), k4 (by omega), k5 (by omega), k6 (by omega), k7 (by omega), k8 (by omega), k9 (by omega), k10 (by omega), ⟨⟨_, _, _, _, T1⟩, S1⟩, k12 (by omega), k13 (by omega), k14 (by omega)⟩
  exact ⟨H1.1.1, u_accept (d := d + 5) (r := rtF q0 false s.2.2.1.1 false 21 0 [] []) H1 F1 L1 (fun a b z => rtF_ne _ _ _ _ z) (fun h3 f3 H3 => ⟨_, rfl, k h3 ((f1.mono (by omega) (by omega)).trans (f3.mono (by omega) (by omega))) H3⟩)⟩
theorem lp_bars (H : isLP h x s) {h1 : jH} (f : jFr (x + 717) (x + 722) h h1) (B : lpB h1 x) : isLP h1 x s := by
  obtain ⟨k0, k1, k2, k3, k4, k5, k6, k7, k8, k9, k10, k11, k12, k13, k14⟩ := H.keep f
  exact ⟨k0 (by omega), k1 (by omega), k2 (by omega), k3 (by omega), k4 (by omega), k5 (by omega), k6 (by omega), k7 (by omega), k8 (by omega), k9 (by omega), k10 (by omega), k11 (by omega), k12 (by omega), k13 (by omega), B⟩
theorem lp_string (H : isLP h x s) {h1 : jH} {l : List Int} (f : jFI (x + 7) (x + 9) h h1) (R : isRow h1 (x + 7) 1900 l) : isLP h1 x s := by
  obtain ⟨k0, k1, k2, k3, k4, k5, k6, k7, k8, k9, k10, k11, k12, k13, k14⟩ := H.keep f.fr
  exact ⟨k0 (by omega), k1 (by omega), k2 (by omega), k3 (by omega), k4 (by omega), ⟨l, R⟩, k6 (by omega), k7 (by omega), k8 (by omega), k9 (by omega), k10 (by omega), k11 (by omega), k12 (by omega), k13 (by omega), k14 (by omega)⟩
theorem accV_fault {p : List Int × List Int × List Int × List Int} {q : List jE × (Nat → List jE)} {c a b a2 b2 : Int} {n : Int × Int × Int} (r : List jE × Option (Int × Int)) : accV (p, q, (c, a, b), n) r = accV (p, q, (c, a2, b2), n) r := by
  obtain ⟨es, o⟩ := r
  cases o with
  | none => rfl
  | some ab => rfl
theorem u_scan (ht : bitL s.1.2.2.1) (hc : 1950 ≤ s.2.2.1.1 ∧ s.2.2.1.1 ≤ 2200) (H : isLP h x s) (k : ∀ h', jFr x (x + 724) h h' → isLP h' x (scanV s).2 → Q (.inl (some (jI (scanV s).1))) h') : jCall (d + 10) mX10_scan [jR x] h Q := by
  obtain ⟨bq, blo, bwi, bfr, bcs, bps, BR, BC, BS⟩ := H.2.2.2.2.2.2.2.2.2.2.2.2.2.2
  have tl := H.2.2.2.2.1.2.2.2.2.2.1
  unfold scanV at k
  refine bX10_scan (fun _ => ⟨H.1.1, ?_⟩)
  rw [H.1.2.2.2.2.2.2.2.2.2.2.2.2, H.1.2.2.2.1]
  refine ⟨BR.1, s0_readBars (d := d + 5) (by omega) (by omega) ht (by omega) BR H.2.2.2.2.1 H.2.2.2.2.2.2.2.2.2.2.2.2.2.1 BC BS (fun h1 fr1 f1 B1 E1 C1 S1 F1 => ⟨rfl, ?_⟩)⟩
  have H1 := lp_bars H f1 ⟨_, _, _, _, _, _, B1, C1, S1⟩
  have ok := rbV_ok (t := s.1.2.2.1)
  generalize hr : rbV s.1.2.2.1 = r at *
  obtain ⟨cs, ps, fs, fp⟩ := r
  refine ⟨H1.1.1, ?_⟩
  rw [H1.1.2.2.2.2.2.2.2.2.2.2.2.2]
  refine ⟨B1.1, s0_faultSort B1.1 ⟨_, rfl, H1.1.1, ?_⟩⟩
  rw [H1.1.2.2.2.2.2.2.2.2.2.2.2.2]
  refine ⟨B1.1, s0_faultPlace B1.1 ⟨_, rfl, H1.1.1, ?_⟩⟩
  rw [show hI h1 7 (x + 717) = fs from F1.1, show hI h1 8 (x + 717) = fp from F1.2]
  have H2 := lp_note H1 fs fp
  have f2 : jFI x (x + 1) h1 (sI (sI h1 713 x fs) 714 x fp) := (jFI_I h1 713 x fs).trans (jFI_I _ 714 x fp)
  have f02 : jFr x (x + 724) h (sI (sI h1 713 x fs) 714 x fp) := (f1.mono (by omega) (by omega)).trans (f2.fr.mono (by omega) (by omega))
  refine bX10_noteFault (fun _ _ _ => ⟨H1.1.1, rfl, H2.1.1, fun _ => ?_⟩)
  rw [H2.2.1.2.1]
  refine ⟨fun z => ?_, fun z => ?_⟩
  · have z' : fs = 0 := z
    obtain ⟨o1, o2, o3, o4⟩ := ok z'
    have B2 := f2.fr.br B1 (by omega)
    have C2 := f2.row C1 (by omega)
    rw [H2.1.2.2.2.2.2.2.2.2.2.2.2.2]
    refine ⟨B2.1, s0_characters B2 C2 ⟨_, rfl, H2.1.1, ?_⟩⟩
    have H3 := lp_715 H2 cs.length
    have f3 := jFI_I (sI (sI h1 713 x fs) 714 x fp) 715 x cs.length
    have B3 := f3.fr.br B2 (by omega)
    rw [H2.1.2.2.2.2.2.2.2.2.2.2.2.2]
    refine ⟨B3.1, s0_isFromRight B3 ⟨_, rfl, H3.1.1, b2i_rg _, ?_⟩⟩
    have H4 := lp_717 H3 (b2i fr1)
    have f4 := jFI_I (sI (sI (sI h1 713 x fs) 714 x fp) 715 x cs.length) 717 x (b2i fr1)
    have B4 := f4.fr.br B3 (by omega)
    have C4 := f4.row (f3.row C2 (by omega)) (by omega)
    have S4 := f4.row (f3.row (f2.row S1 (by omega)) (by omega)) (by omega)
    have w4 : ∀ f, hI (sI (sI (sI (sI h1 713 x fs) 714 x fp) 715 x cs.length) 717 x (b2i fr1)) f (x + 717) = hI h1 f (x + 717) := fun f => by
      rw [(f4.2.2.2.2.2.2 (x + 717) (by omega)).1, (f3.2.2.2.2.2.2 (x + 717) (by omega)).1, (f2.2.2.2.2.2.2 (x + 717) (by omega)).1]
    have f04 := f02.trans ((f3.fr.mono (a' := x) (b' := x + 724) (by omega) (by omega)).trans (f4.fr.mono (by omega) (by omega)))
    obtain ⟨l4, O4⟩ := H4.2.2.2.2.2.1
    rw [H3.1.2.2.2.2.2.2.2.2.2.2.2.2, H3.1.2.2.2.2.1]
    refine ⟨B4.1, s0_tell (d := d + 8) (r := x + 7) (by omega) o4 (by decide) (show 2 ≤ cs.length by have : 3 ≤ cs.length := o2; omega) B4 C4 S4 O4 (fun h6 h5 f5 f6 B6 O6 F6 => ⟨rfl, ?_⟩)⟩
    have O5 : isRow h5 (x + 7) 1900 (tlV cs ps).1 := by
      have g6 : jFI (x + 717) (x + 718) h6 h5 := by
        obtain ⟨p1, p2, p3, p4, p5, p6, p7⟩ := f6
        exact ⟨p1.symm, p2.symm, p3.symm, p4.symm, p5.symm, p6.symm, fun o ho => ⟨fun f => ((p7 o ho).1 f).symm, fun i => ((p7 o ho).2 i).symm⟩⟩
      exact g6.row O6 (by omega)
    have H5 := lp_string H4 f5 O5
    have B5 := f5.fr.br B4 (by omega)
    have H6 := lp_bars H5 (f6.fr.mono (by omega) (by omega)) ⟨_, _, _, _, _, _, B6, f6.row (f5.row C4 (by omega)) (by omega), f6.row (f5.row S4 (by omega)) (by omega)⟩
    have f06 := f04.trans ((f5.fr.mono (a' := x) (b' := x + 724) (by omega) (by omega)).trans (f6.fr.mono (by omega) (by omega)))
    refine ⟨H6.1.1, ?_⟩
    rw [H6.1.2.2.2.2.2.2.2.2.2.2.2.2]
    refine ⟨B6.1, s0_faultSort B6.1 ⟨_, rfl, H6.1.1, ?_⟩⟩
    rw [H6.1.2.2.2.2.2.2.2.2.2.2.2.2]
    refine ⟨B6.1, s0_faultPlace B6.1 ⟨_, rfl, H6.1.1, bX10_noteFault (fun _ _ _ => ⟨H6.1.1, rfl, ?_⟩)⟩⟩
    have H7 := lp_note H6 (hI h6 7 (x + 717)) (hI h6 8 (x + 717))
    have f7 : jFI x (x + 1) h6 (sI (sI h6 713 x (hI h6 7 (x + 717))) 714 x (hI h6 8 (x + 717))) := (jFI_I h6 713 x _).trans (jFI_I _ 714 x _)
    have f07 := f06.trans (f7.fr.mono (a' := x) (b' := x + 724) (by omega) (by omega))
    have e1 : fr1 = frV s.1.2.2.1 (lzV s.1.2.2.1) (wiV s.1.2.2.1) := E1 o1
    have nz : ¬ (fs ≠ 0) := fun w => w z'
    simp only [if_neg nz] at k
    refine ⟨H7.1.1, fun _ => ?_⟩
    rw [H7.2.1.2.1]
    cases hh : (tlV cs ps).2 with
    | some ab =>
      obtain ⟨a, b⟩ := ab
      rw [hh] at F6
      simp only [hh] at k
      have na := tlF_ne _ _ _ _ hh
      have v7 : hI h6 7 (x + 717) = a := F6.1
      have v8 : hI h6 8 (x + 717) = b := F6.2
      rw [v7, v8] at H7 f07 ⊢
      have H8 := lp_716 H7 0
      refine ⟨fun _ => fun _ => ⟨fun w => ?_, fun _ => ?_⟩, fun w => absurd (show a = 0 from w) (by omega)⟩
      · rw [H8.2.1.2.1] at w
        exact absurd (show a = 0 from w) (by omega)
      · rw [e1] at H8
        exact k _ (f07.trans ((jFI_I _ 716 x 0).fr.mono (by omega) (by omega))) H8
    | none =>
      rw [hh] at F6
      simp only [hh] at k
      have v7 : hI h6 7 (x + 717) = 0 := by rw [F6.1, w4, ← z']; exact F1.1
      have v8 : hI h6 8 (x + 717) = -1 := by rw [F6.2, w4, ← o3]; exact F1.2
      rw [v7, v8] at H7 f07 f7 ⊢
      refine ⟨fun w => absurd rfl w, fun _ => ?_⟩
      have O7 := f7.row O6 (by omega)
      rw [H7.1.2.2.2.2.1]
      refine ⟨O7.1, s7_count O7 ⟨_, rfl, H7.1.1, fun _ => ?_⟩⟩
      have H8 := lp_716 H7 (tlV cs ps).1.length
      have f8 := jFI_I (sI (sI h6 713 x 0) 714 x (-1)) 716 x (tlV cs ps).1.length
      rw [H8.2.1.2.1, H8.2.1.1, H7.1.2.2.2.2.2.2.2.2.2.1, H7.1.2.2.2.2.1]
      refine ⟨fun _ => fun _ => ⟨?_, ?_⟩, fun w => absurd rfl w⟩
      · obtain ⟨⟨tq, tbr, tclk, tp, TR⟩, TS⟩ := H7.2.2.2.2.2.2.2.2.2.2.2.1
        exact TR.1
      · rw [e1] at H8
        refine u_readScan (d := d) (Q := Q) (s := (s.1, s.2.1, (s.2.2.1.1, 0, -1), ((cs.length : Int), ((tlV cs ps).1.length : Int), b2i (frV s.1.2.2.1 (lzV s.1.2.2.1) (wiV s.1.2.2.1))))) (q0 := (tlV cs ps).1) (tlF_rg o4 (by show cs.length - 2 ≤ cs.length; omega) _ _ _ _ (fun y hy => by simp at hy)) hc H8 (f8.row O7 (by omega)) (fun h9 f9 H9 => ?_)
        have ea := accV_fault (p := s.1) (q := s.2.1) (c := s.2.2.1.1) (a := 0) (b := -1) (a2 := s.2.2.1.2.1) (b2 := s.2.2.1.2.2) (n := ((cs.length : Int), ((tlV cs ps).1.length : Int), b2i (frV s.1.2.2.1 (lzV s.1.2.2.1) (wiV s.1.2.2.1)))) (rtF (tlV cs ps).1 false s.2.2.1.1 false 21 0 [] [])
        rw [show (s.1, s.2.1, (s.2.2.1.1, (0 : Int), (-1 : Int)), ((cs.length : Int), ((tlV cs ps).1.length : Int), b2i (frV s.1.2.2.1 (lzV s.1.2.2.1) (wiV s.1.2.2.1)))).2.2.1.1 = s.2.2.1.1 from rfl, ea] at H9 ⊢
        exact k h9 (f07.trans ((f8.fr.mono (by omega) (by omega)).trans f9)) H9
  · have z' : fs ≠ 0 := z
    simp only [if_pos z'] at k
    exact k _ f02 H2
end U6
