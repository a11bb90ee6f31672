/-! THE PRESS, MADE, 2 -/
section PJ
variable {d : Nat} {h : jH} {Q : jO → jH → Prop}
theorem up_init {sz : Nat} (k : ∀ h', jMk h h' 724 (sz + 30831) → isLP h' (hS h) jP0 → Q (.inl none) h') : jCall (d + 5) mX10_init [jR (hS h)] (sN h 8 0 sz) Q := by
  obtain ⟨x, hx⟩ : ∃ x, x = hS h := ⟨_, .refl _⟩
  rw [← hx] at k ⊢
  refine bX10_init (fun ok => ?_)
  have z : 10 ≤ hS h + 1 := ok.2.2.2.1
  obtain ⟨h0, e0⟩ : ∃ h0, h0 = sN h 8 0 sz := ⟨_, .refl _⟩
  rw [← e0]
  have M0 : mkP h h0 x 1 sz (fun _ => 0) := by
    subst e0
    refine ⟨by rw [hS_sN]; omega, hT_sN .., ?_, fun f => ?_, fun f => ?_, uFr.sN (by omega) _ _ _⟩
    · rw [hK_sN, if_pos hx]
    · rw [hI_sN, if_pos hx]
    · rw [hR_sN, if_pos hx]
  have s0 := M0.1
  refine ⟨by omega, by omega, s7_init (d := d + 3) (by decide) (fun h1 m1 R1 => ?_)⟩
  have M1 := M0.mk (by omega) m1
  have s1 : hS h1 = x + 3 := M1.1
  rw [s0] at R1
  refine ⟨.refl _, M1.2.2.1, by omega, s7_init (d := d + 3) (h := sR h1 700 x (hS h0)) (n := 3720) (by decide) (fun h2 m2 R2 => ?_)⟩
  have M2 := M1.set.mk (by omega) m2
  have w2 := stp s1 m2
  have s2 : hS h2 = x + 5 := M2.1
  rw [hS_sR, s1] at R2
  refine ⟨.refl _, M2.2.2.1, by omega, s7_init (d := d + 3) (h := sR h2 701 x (hS h1)) (n := 2000) (by decide) (fun h3 m3 R3 => ?_)⟩
  have M3 := M2.set.mk (by omega) m3
  have w3 := stp s2 m3
  have s3 : hS h3 = x + 7 := M3.1
  rw [hS_sR, s2] at R3
  refine ⟨.refl _, M3.2.2.1, by omega, s7_init (d := d + 3) (h := sR h3 702 x (hS h2)) (n := 1900) (by decide) (fun h4 m4 R4 => ?_)⟩
  have M4 := M3.set.mk (by omega) m4
  have w4 := stp s3 m4
  have s4 : hS h4 = x + 9 := M4.1
  rw [hS_sR, s3] at R4
  refine ⟨.refl _, M4.2.2.1, by omega, s7_init (d := d + 3) (h := sR h4 703 x (hS h3)) (n := 100) (by decide) (fun h5 m5 R5 => ?_)⟩
  have M5 := M4.set.mk (by omega) m5
  have w5 := stp s4 m5
  have s5 : hS h5 = x + 11 := M5.1
  rw [hS_sR, s4] at R5
  refine ⟨.refl _, M5.2.2.1, by omega, s6_init (d := d + 1) (h := sR h5 704 x (hS h4)) (fun h6 m6 R6 => ?_)⟩
  have M6 := M5.set.mk (by omega) m6
  have w6 := stp s5 m6
  have s6 : hS h6 = x + 74 := M6.1
  rw [hS_sR, s5] at R6
  refine ⟨.refl _, M6.2.2.1, by omega, s6_init (d := d + 1) (h := sR h6 705 x (hS h5)) (fun h7 m7 R7 => ?_)⟩
  have M7 := M6.set.mk (by omega) m7
  have w7 := stp s6 m7
  have s7 : hS h7 = x + 137 := M7.1
  rw [hS_sR, s6] at R7
  have K8 : hK (sN (sR h7 706 x (hS h6)) 15 8 8) x = 8 := by
    rw [hK_sN, hS_sR, if_neg (by omega)]
    exact M7.2.2.1
  refine ⟨.refl _, M7.2.2.1, K8, ?_⟩
  have m8 : jMk (sR h7 706 x (hS h6)) (sN (sR h7 706 x (hS h6)) 15 8 8) 1 8 := ⟨hS_sN .., hT_sN .., uFr.sN (Nat.le_refl _) _ _ _⟩
  have M8 := (M7.set.mk (by omega) m8).set (f := 707) (v := hS h7)
  have w8 := (stp s7 m8).sR (f := 707) (o := x) (v := hS h7) (.inl (by omega))
  have S0 : mkSh (sR (sN (sR h7 706 x (hS h6)) 15 8 8) 707 x (hS h7)) x 0 := by
    refine ⟨?_, ?_, fun j hj => absurd hj (by omega)⟩
    · rw [hK_sR, hK_sN, hS_sR, if_pos s7.symm]
    · show hN (sN (sR h7 706 x (hS h6)) 15 8 8) (x + 137) = 8
      rw [hN_sN, hS_sR, if_pos s7.symm]
  refine up_init_loop (d := d) s7 8 0 _ (by omega) M8 S0 uFr.rfl (fun hL ML SL wL => ?_)
  have sL : hS hL = x + 642 := ML.1
  refine bX10_init_106 (fun _ _ => ⟨fun _ => ?_, fun w => absurd (by omega) w⟩)
  refine ⟨by omega, s9_init (d := d) (fun h10 m10 T10 L10 R10 => ?_)⟩
  have M10 := ML.mk (by omega) m10
  have w10 : uFr (x + 1) (x + 642) hL h10 := m10.2.2.mono (by omega) (by omega)
  have s10 : hS h10 = x + 710 := M10.1
  rw [sL] at T10 L10 R10
  refine ⟨.refl _, M10.2.2.1, by omega, s5_init (d := d + 2) (h := sR h10 708 x (hS hL)) (fun h11 m11 E11 => ?_)⟩
  have M11 := M10.set.mk (by omega) m11
  have w11 := stp s10 m11
  have s11 : hS h11 = x + 715 := M11.1
  rw [hS_sR, s10] at E11
  refine ⟨.refl _, M11.2.2.1, by omega, s1_init (d := d + 2) (h := sR h11 709 x (hS h10)) (fun h12 m12 B12 => ?_)⟩
  have M12 := M11.set.mk (by omega) m12
  have w12 := stp s11 m12
  have s12 : hS h12 = x + 717 := M12.1
  rw [hS_sR, s11] at B12
  have eB : hR (sN (sR h12 710 x (hS h11)) 1 0 9) 710 x = x + 715 := by
    rw [hR_sN, hS_sR, if_neg (by omega), hR_sR, if_pos ⟨.refl _, .refl _⟩, s11]
  refine ⟨.refl _, M12.2.2.1, ?_, by omega, ?_⟩
  · rw [hK_sN, hS_sR, if_neg (by omega)]
    exact M12.2.2.1
  rw [eB]
  refine s0_init (d := d + 2) (h := sR h12 710 x (hS h11)) (fun h13 m13 P13 C13 O13 => ?_)
  have M13 := M12.set.mk (by omega) m13
  have w13 := stp s12 m13
  have s13 : hS h13 = x + 724 := M13.1
  rw [hS_sR, s12] at P13 C13 O13
  have MF := M13.set (f := 711) (v := hS h12)
  refine ⟨.refl _, M13.2.2.1, k _ ⟨?_, ?_, ?_⟩ ?_⟩
  · rw [← hx]; exact s13
  · have t := M13.2.1
    show hT h13 = hT h + (sz + 30831)
    rw [t]
    show hT h + (sz + (2 + (600 : Int).toNat) + (2 + (3720 : Int).toNat) + (2 + (2000 : Int).toNat) + (2 + (1900 : Int).toNat) + (2 + (100 : Int).toNat) + 2003 + 2003 + 8 + 16024 + 2035 + 105 + 108 + 215) = _
    omega
  · rw [← hx]
    exact ((MF.2.2.2.2.2.sI (.inr (Nat.le_refl _))).sI (.inr (Nat.le_refl _))).sI (.inr (Nat.le_refl _))
  have W13 : uFr (x + 1) (x + 724) h13 (sI (sI (sI (sR h13 711 x (hS h12)) 712 x 2025) 713 x 0) 714 x (-1)) := (((uFr.rfl.sR (.inl (by omega))).sI (.inl (by omega))).sI (.inl (by omega))).sI (.inl (by omega))
  have W12 := w13.trans (W13.mono (Nat.le_refl _) (by omega))
  have W11 := w12.trans (W12.mono (Nat.le_refl _) (by omega))
  have W10 := w11.trans (W11.mono (Nat.le_refl _) (by omega))
  have WL := w10.trans (W10.mono (Nat.le_refl _) (by omega))
  have W7 := w8.trans (wL.trans (WL.mono (Nat.le_refl _) (by omega)))
  have W6 := w7.trans (W7.mono (Nat.le_refl _) (by omega))
  have W5 := w6.trans (W6.mono (Nat.le_refl _) (by omega))
  have W4 := w5.trans (W5.mono (Nat.le_refl _) (by omega))
  have W3 := w4.trans (W4.mono (Nat.le_refl _) (by omega))
  have W2 := w3.trans (W3.mono (Nat.le_refl _) (by omega))
  have W1 := w2.trans (W2.mono (Nat.le_refl _) (by omega))
  have r := MF.2.2.2.2.1
  have n := MF.2.2.2.1
  refine ⟨⟨M13.2.2.1, (r 700).trans s0, (r 701).trans s1, (r 702).trans s2, (r 703).trans s3, (r 704).trans s4, (r 705).trans s5, (r 706).trans s6, (r 707).trans s7, (r 708).trans sL, (r 709).trans s10, (r 710).trans s11, (r 711).trans s12⟩, ⟨?_, ?_, ?_, n 715, n 716, n 717⟩, W1.row R1 (by omega), W2.row R2 (by omega), W3.row R3 (by omega), ⟨[], W4.row R4 (by omega)⟩, W5.row R5 (by omega), W6.lab R6 (by omega), (W7.lab R7 (by omega)).1, ⟨?_, ?_, fun i hi => ?_⟩, fun i hi => ?_, ⟨⟨_, _, _, _, W10.tr T10 (by omega)⟩, (W10.lab L10 (by omega)).1, [], W10.row R10 (by omega)⟩, ⟨_, W11.enc E11 (by omega)⟩, W12.bars B12 (by omega), ⟨_, _, _, _, [], [], W13.br P13 (by omega), W13.row C13 (by omega), W13.row O13 (by omega)⟩⟩
  · rw [hI_sI, if_neg (by omega), hI_sI, if_neg (by omega), hI_sI, if_pos ⟨.refl _, .refl _⟩]; rfl
  · rw [hI_sI, if_neg (by omega), hI_sI, if_pos ⟨.refl _, .refl _⟩]; rfl
  · rw [hI_sI, if_pos ⟨.refl _, .refl _⟩]; rfl
  · exact (WL.k (by omega)).trans SL.1
  · exact (WL.len (by omega)).trans SL.2.1
  · exact (WL.q (by omega) _).trans (SL.2.2 i hi).1
  · exact WL.lab (SL.2.2 i hi).2 (by omega)
end PJ
