/-! THE PRESS: scan, through -/
section U6
variable {d x : Nat} {h : jH} {Q : jO → jH → Prop} {s : jP}
/-- reading the string that was scanned -/
theorem u_readScan {q0 : List Int} (hb : ∀ y ∈ q0, 0 ≤ y ∧ y < 256) (hc : 1950 ≤ s.2.2.1.1 ∧ s.2.2.1.1 ≤ 2200) (H : isLP h x s) (R : isRow h (x + 7) 1900 q0) (k : ∀ h', jFr x (x + 724) h h' → isLP h' x (accV s (rtF q0 false s.2.2.1.1 false 21 0 [] [])).2 → Q (.inl (some (jI (accV s (rtF q0 false s.2.2.1.1 false 21 0 [] [])).1))) h') :
    jCall (d + 9) mX9_readText [jR (x + 642), jR (x + 7), jI 0, jI 0, jI s.2.2.1.1] h (fun o h134 => o = .inl none ∧ hK h134 x = 8 ∧ jCall (d + 9) mX10_acceptText [jR x] h134 (fun o h138 => ∃ v138, o = .inl (some (jI v138)) ∧ Q (.inl (some (jI v138))) h138)) := by
  obtain ⟨⟨tq, tbr, tclk, tp, TR⟩, TS⟩ := H.2.2.2.2.2.2.2.2.2.2.2.1
  have tl := R.2.2.2.2.2.1
  refine s9_readText (br := false) (asks := false) hb (by omega) hc (by omega) TR TS R (fun h1 p1 f1 T1 S1 L1 F1 => ⟨rfl, ?_⟩)
  have H1 : isLP h1 x s := by
    obtain ⟨k0, k1, k2, k3, k4, k5, k6, k7, k8, k9, k10, k11, k12, k13, k14⟩ := H.keep f1
    exact ⟨k0 (by omega), k1 (by omega), k2 (by omega), k3 (by omega), k4 (by omega), k5 (by omega), k6 (by omega), k7 (by omega), k8 (by omega), k9 (by omega), k10 (by omega), ⟨⟨_, _, _, _, T1⟩, S1⟩, k12 (by omega), k13 (by omega), k14 (by omega)⟩
  exact ⟨H1.1.1, u_accept (d := d + 5) (r := rtF q0 false s.2.2.1.1 false 21 0 [] []) H1 F1 L1 (fun a b z => rtF_ne _ _ _ _ z) (fun h3 f3 H3 => ⟨_, rfl, k h3 ((f1.mono (by omega) (by omega)).trans (f3.mono (by omega) (by omega))) H3⟩)⟩
end U6
