/-! THE LAW: its loop, its start (made by wip/whole/gen/genlaw3.py) -/
section LE
set_option maxRecDepth 100000 in
theorem fX11_init : jci mX11_init := ⟨⟨jWm 1152 (w := Cond.code yX11_init cX11_init 2 none) rfl rfl, inX11, ⟨by decide, by decide⟩, by decide⟩, jWm 1151 (by decide +kernel) (by decide +kernel), rfl, rfl, rfl⟩
variable {b h : jH} {s : jP} {Q : jO → jH → Prop} {i : Int}
theorem lw_33 (nc : ∀ (G : jG) (s : State), jlo G s s.heap → va_Nc "java/util/NoSuchElementException" "java/lang/IndexOutOfBoundsException" s) (I : lwH b h s s) (J : jInv s) (hi : 0 ≤ i ∧ i + 6 ≤ hN b 4) (k : lwK b h i Q) : jWp 14 mL_law 33 [(0, jR 4), (1, jR 10), (2, jR 734), (3, jR 764), (4, jI i)] [] h Q := by
  have le := I.2.2.2.2.2.2.2.2
  refine wp_aload_n 0 dL_law_33 rfl ?_
  refine wp_iload 4 dL_law_34 rfl ?_
  refine wp_script dL_law_36 I.k4 (by omega) (by rw [I.n4]; omega) (fun _ => ?_)
  refine wp_bipush dL_law_37 ⟨by decide, by decide⟩ ?_
  refine wp_iand31 dL_law_39 ?_
  have m0 : 0 ≤ hA h 4 i % 32 := Int.emod_nonneg _ (by decide)
  generalize hA h 4 i % 32 = c at m0 ⊢
  refine wp_table dL_law_40 1482 rfl (fun _ => k h s I J (by omega) (by omega)) (fun q0 q1 => ?_)
  have cs : c = 0 ∨ c = 1 ∨ c = 2 ∨ c = 3 ∨ c = 4 ∨ c = 5 ∨ c = 6 ∨ c = 7 ∨ c = 8 ∨ c = 9 ∨ c = 10 ∨ c = 11 ∨ c = 12 ∨ c = 13 ∨ c = 14 ∨ c = 15 ∨ c = 16 ∨ c = 17 ∨ c = 18 ∨ c = 19 ∨ c = 20 ∨ c = 21 ∨ c = 22 ∨ c = 23 ∨ c = 24 ∨ c = 25 ∨ c = 26 ∨ c = 27 ∨ c = 28 ∨ c = 29 ∨ c = 30 := by omega
  rcases cs with rfl | rfl | rfl | rfl | rfl | rfl | rfl | rfl | rfl | rfl | rfl | rfl | rfl | rfl | rfl | rfl | rfl | rfl | rfl | rfl | rfl | rfl | rfl | rfl | rfl | rfl | rfl | rfl | rfl | rfl | rfl
  · exact ⟨140, 180, rfl, rfl, lc_0 I J hi k⟩
  · exact ⟨213, 253, rfl, rfl, lc_1 I J hi k⟩
  · exact ⟨238, 278, rfl, rfl, lc_2 I J hi k⟩
  · exact ⟨251, 291, rfl, rfl, lc_3 I J hi k⟩
  · exact ⟨276, 316, rfl, rfl, lc_4 I J hi k⟩
  · exact ⟨317, 357, rfl, rfl, lc_5 I J hi k⟩
  · exact ⟨342, 382, rfl, rfl, lc_6 I J hi k⟩
  · exact ⟨367, 407, rfl, rfl, lc_7 I J hi k⟩
  · exact ⟨435, 475, rfl, rfl, lc_8 I J hi k⟩
  · exact ⟨503, 543, rfl, rfl, lc_9 I J hi k⟩
  · exact ⟨583, 623, rfl, rfl, lc_10 nc I J hi k⟩
  · exact ⟨650, 690, rfl, rfl, lc_11 nc I J hi k⟩
  · exact ⟨730, 770, rfl, rfl, lc_12 I J hi k⟩
  · exact ⟨767, 807, rfl, rfl, lc_13 I J hi k⟩
  · exact ⟨808, 848, rfl, rfl, lc_14 I J hi k⟩
  · exact ⟨833, 873, rfl, rfl, lc_15 I J hi k⟩
  · exact ⟨846, 886, rfl, rfl, lc_16 I J hi k⟩
  · exact ⟨902, 942, rfl, rfl, lc_17 I J hi k⟩
  · exact ⟨958, 998, rfl, rfl, lc_18 I J hi k⟩
  · exact ⟨1021, 1061, rfl, rfl, lc_19 I J hi k⟩
  · exact ⟨1077, 1117, rfl, rfl, lc_20 I J hi k⟩
  · exact ⟨1090, 1130, rfl, rfl, lc_21 I J hi k⟩
  · exact ⟨1146, 1186, rfl, rfl, lc_22 I J hi k⟩
  · exact ⟨1171, 1211, rfl, rfl, lc_23 I J hi k⟩
  · exact ⟨1215, 1255, rfl, rfl, lc_24 I J hi k⟩
  · exact ⟨1288, 1328, rfl, rfl, lc_25 I J hi k⟩
  · exact ⟨1313, 1353, rfl, rfl, lc_26 I J hi k⟩
  · exact ⟨1326, 1366, rfl, rfl, lc_27 I J hi k⟩
  · exact ⟨1379, 1419, rfl, rfl, lc_28 I J hi k⟩
  · exact ⟨1404, 1444, rfl, rfl, lc_29 I J hi k⟩
  · exact ⟨1417, 1457, rfl, rfl, lc_30 I J hi k⟩
theorem lw_loop (nc : ∀ (G : jG) (s : State), jlo G s s.heap → va_Nc "java/util/NoSuchElementException" "java/lang/IndexOutOfBoundsException" s) {S0 T0 : Nat} (QE : ∀ h', 6 * hS h' ≤ 6 * S0 + 3072 → hT h' ≤ T0 + 3072 → Q (.inl (some (jI 1))) h') (n : Nat) : ∀ (i : Int) (h : jH) (s : jP), hN b 4 - i ≤ n → 0 ≤ i → i ≤ hN b 4 + 5 → lwH b h s s → jInv s → 6 * (hS h : Int) ≤ 6 * S0 + i → (hT h : Int) ≤ T0 + i → (i ≤ hN b 4 ∨ (6 * hS h ≤ 6 * S0 + 3072 ∧ hT h ≤ T0 + 3072)) → jWp 14 mL_law 23 [(0, jR 4), (1, jR 10), (2, jR 734), (3, jR 764), (4, jI i)] [] h Q := by
  induction n with
  | zero =>
    intro i h s hn h0 h9 I J b1 b2 b3
    have le := I.2.2.2.2.2.2.2.2
    refine wp_iload 4 dL_law_23 rfl ?_
    refine wp_aload_n 0 dL_law_25 rfl ?_
    refine wp_scriptL dL_law_26 I.k4 (fun l0 => ?_)
    rw [I.n4] at l0 ⊢
    refine wp_bipush dL_law_27 ⟨by decide, by decide⟩ ?_
    refine wp_isub dL_law_29 ⟨by omega, by omega⟩ ?_
    refine wp_icmp_gt 1488 dL_law_30 rfl (fun _ => ?_) (fun z => absurd (by omega) z)
    refine wp_iconst dL_law_1488 ⟨by decide, by decide⟩ ?_
    exact wp_zreturn dL_law_1489 rfl (by decide) (by decide) (QE h (by omega) (by omega))
  | succ n ih =>
    intro i h s hn h0 h9 I J b1 b2 b3
    have le := I.2.2.2.2.2.2.2.2
    refine wp_iload 4 dL_law_23 rfl ?_
    refine wp_aload_n 0 dL_law_25 rfl ?_
    refine wp_scriptL dL_law_26 I.k4 (fun l0 => ?_)
    rw [I.n4] at l0 ⊢
    refine wp_bipush dL_law_27 ⟨by decide, by decide⟩ ?_
    refine wp_isub dL_law_29 ⟨by omega, by omega⟩ ?_
    refine wp_icmp_gt 1488 dL_law_30 rfl (fun _ => ?_) (fun z => ?_)
    · refine wp_iconst dL_law_1488 ⟨by decide, by decide⟩ ?_
      exact wp_zreturn dL_law_1489 rfl (by decide) (by decide) (QE h (by omega) (by omega))
    · refine lw_33 nc I J ⟨h0, by omega⟩ (fun h1 s1 I1 J1 c1 c2 => ?_)
      refine wp_iinc 4 [1, 2, 3, 4, 0] (ls' := [(0, jR 4), (1, jR 10), (2, jR 734), (3, jR 764), (4, jI (i + 6))]) dL_law_1482 rfl ⟨by omega, by omega⟩ ⟨by decide, by decide⟩ (by decide) rfl ?_
      refine wp_goto 23 dL_law_1485 rfl ?_
      exact ih (i + 6) h1 s1 (by omega) (by omega) (by omega) I1 J1 (by omega) (by omega) (by omega)
theorem lw_all (nc : ∀ (G : jG) (s : State), jlo G s s.heap → va_Nc "java/util/NoSuchElementException" "java/lang/IndexOutOfBoundsException" s) (h0 : hS h = 10 ∧ hT h = 0) (k4 : hK h 4 = 21) (n4 : 0 ≤ hN h 4 ∧ hN h 4 ≤ 3072) (QE : ∀ h', 6 * hS h' ≤ 6 * 765 + 3072 → hT h' ≤ 70000 → Q (.inl (some (jI 1))) h') : jWp 14 mL_law 0 [(0, jR 4)] [] h Q := by
  refine wp_new (ci := 7) rfl qL_8 iX10 inX10 dL_law_0 ?_
  refine wp_dup dL_law_3 rfl ?_
  refine wp_callI (y' := mX10_init) (st := [jR (hS h)]) [] rfl fX10_init kL_54 nX10_init dL_law_4 (Nat.le_of_ble_eq_true rfl) (by omega) ?_
  refine up_init (d := 8) (sz := 18) (fun h1 m1 H1 => ⟨rfl, ?_⟩)
  show jWp 14 mL_law 7 [(0, jR 4)] [jR (hS h)] h1 Q
  rw [h0.1] at H1 ⊢
  have e1 : hS h1 = 734 := by have := m1.1; omega
  have t1 : hT h1 = 30849 := by have := m1.2.1; omega
  have u1 : uFr 0 10 h h1 := m1.u (by omega)
  refine wp_astore_n [1, 0] (ls' := [(0, jR 4), (1, jR 10)]) dL_law_7 (by decide) rfl ?_
  refine wp_new (ci := 8) rfl qL_55 iX11 inX11 dL_law_8 ?_
  refine wp_dup dL_law_11 rfl ?_
  refine wp_callI (y' := mX11_init) (st := [jR (hS h1)]) [] rfl fX11_init kL_57 nX11_init dL_law_12 (Nat.le_of_ble_eq_true rfl) (by omega) ?_
  refine v_init (d := 10) (sz := 52) (fun h2 m2 H2 => ⟨rfl, ?_⟩)
  show jWp 14 mL_law 15 [(0, jR 4), (1, jR 10)] [jR (hS h1)] h2 Q
  rw [e1] at H2 ⊢
  have e2 : hS h2 = 764 := by have := m2.1; omega
  have t2 : hT h2 = 62036 := by have := m2.2.1; omega
  have u2 : uFr 0 734 h1 h2 := m2.u (by omega)
  refine wp_astore_n [1, 2, 0] (ls' := [(0, jR 4), (1, jR 10), (2, jR 734)]) dL_law_15 (by decide) rfl ?_
  refine wp_iconst dL_law_16 ⟨by decide, by decide⟩ ?_
  refine wp_newa (at' := .long) (ty := .long) rfl (.inr (.inr (.inr ⟨rfl, rfl⟩))) ar_long dL_law_17 ⟨by decide, by decide⟩ ?_
  rw [e2]
  refine wp_astore_n [1, 2, 3, 0] (ls' := [(0, jR 4), (1, jR 10), (2, jR 734), (3, jR 764)]) dL_law_19 (by decide) rfl ?_
  refine wp_iconst dL_law_20 ⟨by decide, by decide⟩ ?_
  refine wp_istore [1, 2, 3, 4, 0] (ls' := [(0, jR 4), (1, jR 10), (2, jR 734), (3, jR 764), (4, jI 0)]) dL_law_21 (by decide) rfl ?_
  have u3 : uFr 0 764 h2 (sN h2 13 1 (1 : Int).toNat) := uFr.sN (by omega) _ _ _
  have u03 : uFr 0 10 h (sN h2 13 1 (1 : Int).toNat) := (u1.trans (u2.mono (Nat.le_refl _) (by omega))).trans (u3.mono (Nat.le_refl _) (by omega))
  have I : lwH h (sN h2 13 1 (1 : Int).toNat) jP0 jP0 := by
    refine ⟨u3.lp (u2.lp H1 (by omega)) (by omega), u3.md H2 (by omega), ?_, ?_, (u03.k (by omega)).trans k4, u03.len (by omega), fun i => u03.a (by omega) i, ?_, n4.2⟩
    · rw [hK_sN, if_pos e2.symm]
    · rw [hN_sN, if_pos e2.symm]
    · rw [hS_sN]; omega
  have J : jInv jP0 := ⟨fun x hx => (nomatch hx), fun x hx => (nomatch hx), fun x hx => (nomatch hx), .inl rfl, ⟨okIv_nil, fun i _ => okIv_nil⟩, by decide, by decide, by decide⟩
  have e3 : hS (sN h2 13 1 (1 : Int).toNat) = 765 := by rw [hS_sN]; omega
  have t3 : hT (sN h2 13 1 (1 : Int).toNat) = 62037 := by rw [hT_sN]; omega
  exact lw_loop nc (S0 := 765) (T0 := 62037) (fun h' a c => QE h' (by omega) (by omega)) (hN h 4).toNat 0 _ jP0 (by omega) (by omega) (by omega) I J (by omega) (by omega) (by omega)
end LE
