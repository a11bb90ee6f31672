/-! BLOCKS (made by wip/whole/gen/genblk.py) -/
theorem bX10_init {d : Nat} {h : jH} {Q : jO → jH → Prop} {a0 : Nat} (k : jOK h → a0 ≠ 0 ∧ (hS h) ≠ 0 ∧ jCall d mX7_init [jR (hS h), jI 600] (sN h 6 0 2) (fun o h12 => o = .inl none ∧ hK h12 a0 = 8 ∧ (hS h12) ≠ 0 ∧ jCall d mX7_init [jR (hS h12), jI 3720] (sN (sR h12 700 a0 (hS h)) 6 0 2) (fun o h26 => o = .inl none ∧ hK h26 a0 = 8 ∧ (hS h26) ≠ 0 ∧ jCall d mX7_init [jR (hS h26), jI 2000] (sN (sR h26 701 a0 (hS h12)) 6 0 2) (fun o h40 => o = .inl none ∧ hK h40 a0 = 8 ∧ (hS h40) ≠ 0 ∧ jCall d mX7_init [jR (hS h40), jI 1900] (sN (sR h40 702 a0 (hS h26)) 6 0 2) (fun o h54 => o = .inl none ∧ hK h54 a0 = 8 ∧ (hS h54) ≠ 0 ∧ jCall d mX7_init [jR (hS h54), jI 100] (sN (sR h54 703 a0 (hS h40)) 6 0 2) (fun o h67 => o = .inl none ∧ hK h67 a0 = 8 ∧ (hS h67) ≠ 0 ∧ jCall d mX6_init [jR (hS h67)] (sN (sR h67 704 a0 (hS h54)) 5 0 3) (fun o h78 => o = .inl none ∧ hK h78 a0 = 8 ∧ (hS h78) ≠ 0 ∧ jCall d mX6_init [jR (hS h78)] (sN (sR h78 705 a0 (hS h67)) 5 0 3) (fun o h89 => o = .inl none ∧ hK h89 a0 = 8 ∧ hK (sN (sR h89 706 a0 (hS h78)) 15 8 8) a0 = 8 ∧ jWp (d + 1) mX10_init 106 [(0, jR a0), (1, jI 0)] [] (sR (sN (sR h89 706 a0 (hS h78)) 15 8 8) 707 a0 (hS h89)) Q)))))))) : jCall (d + 1) mX10_init [jR a0] h Q := by
  refine jCall_of plX10 (Nat.le_of_ble_eq_true rfl) ?_
  show jWp (d + 1) mX10_init 0 [(0, jR a0)] [] h Q
  refine jw_ok (fun ok q => ?_)
  replace k := k ok 
  refine wp_aload_n 0 dX10_init_0 rfl ?_
  have c1 := k.1
  replace k := k.2
  refine wp_objInit dX10_init_1 kX10_1 c1 (Nat.le_of_ble_eq_true rfl) ?_
  refine wp_aload_n 0 dX10_init_4 rfl ?_
  refine wp_new (ci := 5) rfl qX10_7 iX7 inX7 dX10_init_5 ?_
  refine wp_dup dX10_init_8 rfl ?_
  refine wp_sipush dX10_init_9 ⟨by decide, by decide⟩ ?_
  have c2 := k.1
  replace k := k.2
  refine wp_callI (y' := mX7_init) (st := [jR (hS h), jR a0]) [jI 600] rfl fX7_init kX10_11 nX7_init dX10_init_12 (Nat.le_of_ble_eq_true rfl) c2 ?_
  refine jCall.mono k (fun o h12 k => ?_)
  obtain ⟨e, k⟩ := k
  refine ⟨e, ?_⟩
  show jWp (d + 1) mX10_init 15 [(0, jR a0)] [jR (hS h), jR a0] h12 Q
  have c3 := k.1
  replace k := k.2
  refine wp_putR (ci := 7) (j := 0) rfl (by decide) gX10_14 dX10_init_15 c3 (Or.inr ⟨rfl, rfl, rfl⟩) rfl ?_
  refine wp_aload_n 0 dX10_init_18 rfl ?_
  refine wp_new (ci := 5) rfl qX10_7 iX7 inX7 dX10_init_19 ?_
  refine wp_dup dX10_init_22 rfl ?_
  refine wp_sipush dX10_init_23 ⟨by decide, by decide⟩ ?_
  have c4 := k.1
  replace k := k.2
  refine wp_callI (y' := mX7_init) (st := [jR (hS h12), jR a0]) [jI 3720] rfl fX7_init kX10_11 nX7_init dX10_init_26 (Nat.le_of_ble_eq_true rfl) c4 ?_
  refine jCall.mono k (fun o h26 k => ?_)
  obtain ⟨e, k⟩ := k
  refine ⟨e, ?_⟩
  show jWp (d + 1) mX10_init 29 [(0, jR a0)] [jR (hS h12), jR a0] h26 Q
  have c5 := k.1
  replace k := k.2
  refine wp_putR (ci := 7) (j := 1) rfl (by decide) gX10_18 dX10_init_29 c5 (Or.inr ⟨rfl, rfl, rfl⟩) rfl ?_
  refine wp_aload_n 0 dX10_init_32 rfl ?_
  refine wp_new (ci := 5) rfl qX10_7 iX7 inX7 dX10_init_33 ?_
  refine wp_dup dX10_init_36 rfl ?_
  refine wp_sipush dX10_init_37 ⟨by decide, by decide⟩ ?_
  have c6 := k.1
  replace k := k.2
  refine wp_callI (y' := mX7_init) (st := [jR (hS h26), jR a0]) [jI 2000] rfl fX7_init kX10_11 nX7_init dX10_init_40 (Nat.le_of_ble_eq_true rfl) c6 ?_
  refine jCall.mono k (fun o h40 k => ?_)
  obtain ⟨e, k⟩ := k
  refine ⟨e, ?_⟩
  show jWp (d + 1) mX10_init 43 [(0, jR a0)] [jR (hS h26), jR a0] h40 Q
  have c7 := k.1
  replace k := k.2
  refine wp_putR (ci := 7) (j := 2) rfl (by decide) gX10_21 dX10_init_43 c7 (Or.inr ⟨rfl, rfl, rfl⟩) rfl ?_
  refine wp_aload_n 0 dX10_init_46 rfl ?_
  refine wp_new (ci := 5) rfl qX10_7 iX7 inX7 dX10_init_47 ?_
  refine wp_dup dX10_init_50 rfl ?_
  refine wp_sipush dX10_init_51 ⟨by decide, by decide⟩ ?_
  have c8 := k.1
  replace k := k.2
  refine wp_callI (y' := mX7_init) (st := [jR (hS h40), jR a0]) [jI 1900] rfl fX7_init kX10_11 nX7_init dX10_init_54 (Nat.le_of_ble_eq_true rfl) c8 ?_
  refine jCall.mono k (fun o h54 k => ?_)
  obtain ⟨e, k⟩ := k
  refine ⟨e, ?_⟩
  show jWp (d + 1) mX10_init 57 [(0, jR a0)] [jR (hS h40), jR a0] h54 Q
  have c9 := k.1
  replace k := k.2
  refine wp_putR (ci := 7) (j := 3) rfl (by decide) gX10_24 dX10_init_57 c9 (Or.inr ⟨rfl, rfl, rfl⟩) rfl ?_
  refine wp_aload_n 0 dX10_init_60 rfl ?_
  refine wp_new (ci := 5) rfl qX10_7 iX7 inX7 dX10_init_61 ?_
  refine wp_dup dX10_init_64 rfl ?_
  refine wp_bipush dX10_init_65 ⟨by decide, by decide⟩ ?_
  have c10 := k.1
  replace k := k.2
  refine wp_callI (y' := mX7_init) (st := [jR (hS h54), jR a0]) [jI 100] rfl fX7_init kX10_11 nX7_init dX10_init_67 (Nat.le_of_ble_eq_true rfl) c10 ?_
  refine jCall.mono k (fun o h67 k => ?_)
  obtain ⟨e, k⟩ := k
  refine ⟨e, ?_⟩
  show jWp (d + 1) mX10_init 70 [(0, jR a0)] [jR (hS h54), jR a0] h67 Q
  have c11 := k.1
  replace k := k.2
  refine wp_putR (ci := 7) (j := 4) rfl (by decide) gX10_27 dX10_init_70 c11 (Or.inr ⟨rfl, rfl, rfl⟩) rfl ?_
  refine wp_aload_n 0 dX10_init_73 rfl ?_
  refine wp_new (ci := 4) rfl qX10_30 iX6 inX6 dX10_init_74 ?_
  refine wp_dup dX10_init_77 rfl ?_
  have c12 := k.1
  replace k := k.2
  refine wp_callI (y' := mX6_init) (st := [jR (hS h67), jR a0]) [] rfl fX6_init kX10_32 nX6_init dX10_init_78 (Nat.le_of_ble_eq_true rfl) c12 ?_
  refine jCall.mono k (fun o h78 k => ?_)
  obtain ⟨e, k⟩ := k
  refine ⟨e, ?_⟩
  show jWp (d + 1) mX10_init 81 [(0, jR a0)] [jR (hS h67), jR a0] h78 Q
  have c13 := k.1
  replace k := k.2
  refine wp_putR (ci := 7) (j := 5) rfl (by decide) gX10_33 dX10_init_81 c13 (Or.inr ⟨rfl, rfl, rfl⟩) rfl ?_
  refine wp_aload_n 0 dX10_init_84 rfl ?_
  refine wp_new (ci := 4) rfl qX10_30 iX6 inX6 dX10_init_85 ?_
  refine wp_dup dX10_init_88 rfl ?_
  have c14 := k.1
  replace k := k.2
  refine wp_callI (y' := mX6_init) (st := [jR (hS h78), jR a0]) [] rfl fX6_init kX10_32 nX6_init dX10_init_89 (Nat.le_of_ble_eq_true rfl) c14 ?_
  refine jCall.mono k (fun o h89 k => ?_)
  obtain ⟨e, k⟩ := k
  refine ⟨e, ?_⟩
  show jWp (d + 1) mX10_init 92 [(0, jR a0)] [jR (hS h78), jR a0] h89 Q
  have c15 := k.1
  replace k := k.2
  refine wp_putR (ci := 7) (j := 6) rfl (by decide) gX10_37 dX10_init_92 c15 (Or.inr ⟨rfl, rfl, rfl⟩) rfl ?_
  refine wp_aload_n 0 dX10_init_95 rfl ?_
  refine wp_bipush dX10_init_96 ⟨by decide, by decide⟩ ?_
  refine wp_anewa (Or.inr ⟨rfl, rfl⟩) qX10_30 dX10_init_98 ⟨by decide, by decide⟩ ?_
  have c16 := k.1
  replace k := k.2
  refine wp_putR (ci := 7) (j := 7) rfl (by decide) gX10_40 dX10_init_101 c16 (Or.inr ⟨rfl, rfl, rfl⟩) rfl ?_
  refine wp_iconst dX10_init_104 ⟨by decide, by decide⟩ ?_
  refine wp_istore_n [1, 0] (ls' := [(0, jR a0), (1, jI 0)]) dX10_init_105 (by decide) rfl ?_
  exact k
theorem bX10_init_106 {d : Nat} {h : jH} {Q : jO → jH → Prop} {a0 : Nat} {a1 : Int} (k : jOK h → j32 a1 → ((8 ≤ a1 → (hS h) ≠ 0 ∧ jCall d mX9_init [jR (hS h)] (sN h 7 0 8) (fun o h136 => o = .inl none ∧ hK h136 a0 = 8 ∧ (hS h136) ≠ 0 ∧ jCall d mX5_init [jR (hS h136)] (sN (sR h136 708 a0 (hS h)) 4 0 3) (fun o h147 => o = .inl none ∧ hK h147 a0 = 8 ∧ (hS h147) ≠ 0 ∧ jCall d mX1_init [jR (hS h147)] (sN (sR h147 709 a0 (hS h136)) 2 0 2) (fun o h158 => o = .inl none ∧ hK h158 a0 = 8 ∧ hK (sN (sR h158 710 a0 (hS h147)) 1 0 9) a0 = 8 ∧ (hS h158) ≠ 0 ∧ jCall d mX0_init [jR (hS h158), jR (hR (sN (sR h158 710 a0 (hS h147)) 1 0 9) 710 a0)] (sN (sR h158 710 a0 (hS h147)) 1 0 9) (fun o h173 => o = .inl none ∧ hK h173 a0 = 8 ∧ Q (.inl none) (sI (sI (sI (sR h173 711 a0 (hS h158)) 712 a0 2025) 713 a0 0) 714 a0 (-1))))))) ∧ (¬ (8 ≤ a1) → hK h a0 = 8 ∧ (hS h) ≠ 0 ∧ jCall d mX6_init [jR (hS h)] (sN h 5 0 3) (fun o h121 => o = .inl none ∧ hK h121 (hR h 707 a0) = 15 ∧ 0 ≤ a1 ∧ a1 < hN h121 (hR h 707 a0) ∧ hK h121 (hS h) = 5 ∧ j32 (a1 + 1) ∧ jWp (d + 1) mX10_init 106 [(0, jR a0), (1, jI (a1 + 1))] [] (sQ h121 (hR h 707 a0) a1 (hS h)) Q)))) : jWp (d + 1) mX10_init 106 [(0, jR a0), (1, jI a1)] [] h Q := by
  refine jw_ok (fun ok q => ?_)
  replace k := k ok (q _ (.tail _ (.head _)))
  refine wp_iload_n 1 dX10_init_106 rfl ?_
  refine wp_bipush dX10_init_107 ⟨by decide, by decide⟩ ?_
  refine wp_icmp_ge 131 dX10_init_109 rfl (fun q => ?_) (fun q => ?_)
  · replace k := k.1 q
    refine wp_aload_n 0 dX10_init_131 rfl ?_
    refine wp_new (ci := 6) rfl qX10_44 iX9 inX9 dX10_init_132 ?_
    refine wp_dup dX10_init_135 rfl ?_
    have c1 := k.1
    replace k := k.2
    refine wp_callI (y' := mX9_init) (st := [jR (hS h), jR a0]) [] rfl fX9_init kX10_46 nX9_init dX10_init_136 (Nat.le_of_ble_eq_true rfl) c1 ?_
    refine jCall.mono k (fun o h136 k => ?_)
    obtain ⟨e, k⟩ := k
    refine ⟨e, ?_⟩
    show jWp (d + 1) mX10_init 139 [(0, jR a0), (1, jI a1)] [jR (hS h), jR a0] h136 Q
    have c2 := k.1
    replace k := k.2
    refine wp_putR (ci := 7) (j := 8) rfl (by decide) gX10_47 dX10_init_139 c2 (Or.inr ⟨rfl, rfl, rfl⟩) rfl ?_
    refine wp_aload_n 0 dX10_init_142 rfl ?_
    refine wp_new (ci := 3) rfl qX10_51 iX5 inX5 dX10_init_143 ?_
    refine wp_dup dX10_init_146 rfl ?_
    have c3 := k.1
    replace k := k.2
    refine wp_callI (y' := mX5_init) (st := [jR (hS h136), jR a0]) [] rfl fX5_init kX10_53 nX5_init dX10_init_147 (Nat.le_of_ble_eq_true rfl) c3 ?_
    refine jCall.mono k (fun o h147 k => ?_)
    obtain ⟨e, k⟩ := k
    refine ⟨e, ?_⟩
    show jWp (d + 1) mX10_init 150 [(0, jR a0), (1, jI a1)] [jR (hS h136), jR a0] h147 Q
    have c4 := k.1
    replace k := k.2
    refine wp_putR (ci := 7) (j := 9) rfl (by decide) gX10_54 dX10_init_150 c4 (Or.inr ⟨rfl, rfl, rfl⟩) rfl ?_
    refine wp_aload_n 0 dX10_init_153 rfl ?_
    refine wp_new (ci := 1) rfl qX10_58 iX1 inX1 dX10_init_154 ?_
    refine wp_dup dX10_init_157 rfl ?_
    have c5 := k.1
    replace k := k.2
    refine wp_callI (y' := mX1_init) (st := [jR (hS h147), jR a0]) [] rfl fX1_init kX10_60 nX1_init dX10_init_158 (Nat.le_of_ble_eq_true rfl) c5 ?_
    refine jCall.mono k (fun o h158 k => ?_)
    obtain ⟨e, k⟩ := k
    refine ⟨e, ?_⟩
    show jWp (d + 1) mX10_init 161 [(0, jR a0), (1, jI a1)] [jR (hS h147), jR a0] h158 Q
    have c6 := k.1
    replace k := k.2
    refine wp_putR (ci := 7) (j := 10) rfl (by decide) gX10_61 dX10_init_161 c6 (Or.inr ⟨rfl, rfl, rfl⟩) rfl ?_
    refine wp_aload_n 0 dX10_init_164 rfl ?_
    refine wp_new (ci := 0) rfl qX10_65 iX0 inX0 dX10_init_165 ?_
    refine wp_dup dX10_init_168 rfl ?_
    refine wp_aload_n 0 dX10_init_169 rfl ?_
    have c7 := k.1
    replace k := k.2
    refine wp_getR (ci := 7) (j := 10) rfl (by decide) gX10_61 dX10_init_170 c7 rfl ?_
    have c8 := k.1
    replace k := k.2
    refine wp_callI (y' := mX0_init) (st := [jR (hS h158), jR a0]) [jR (hR (sN (sR h158 710 a0 (hS h147)) 1 0 9) 710 a0)] rfl fX0_init kX10_67 nX0_init dX10_init_173 (Nat.le_of_ble_eq_true rfl) c8 ?_
    refine jCall.mono k (fun o h173 k => ?_)
    obtain ⟨e, k⟩ := k
    refine ⟨e, ?_⟩
    show jWp (d + 1) mX10_init 176 [(0, jR a0), (1, jI a1)] [jR (hS h158), jR a0] h173 Q
    have c9 := k.1
    replace k := k.2
    refine wp_putR (ci := 7) (j := 11) rfl (by decide) gX10_70 dX10_init_176 c9 (Or.inr ⟨rfl, rfl, rfl⟩) rfl ?_
    refine wp_aload_n 0 dX10_init_179 rfl ?_
    refine wp_sipush dX10_init_180 ⟨by decide, by decide⟩ ?_
    refine wp_putI (ci := 7) (j := 12) rfl (by decide) gX10_74 dX10_init_183 c9 (Or.inl rfl) rfl ?_
    refine wp_aload_n 0 dX10_init_186 rfl ?_
    refine wp_iconst dX10_init_187 ⟨by decide, by decide⟩ ?_
    refine wp_putI (ci := 7) (j := 13) rfl (by decide) gX10_78 dX10_init_188 c9 (Or.inl rfl) rfl ?_
    refine wp_aload_n 0 dX10_init_191 rfl ?_
    refine wp_iconst dX10_init_192 ⟨by decide, by decide⟩ ?_
    refine wp_putI (ci := 7) (j := 14) rfl (by decide) gX10_81 dX10_init_193 c9 (Or.inl rfl) rfl ?_
    exact wp_return dX10_init_196 rfl k
  · replace k := k.2 q
    refine wp_aload_n 0 dX10_init_112 rfl ?_
    have c10 := k.1
    replace k := k.2
    refine wp_getR (ci := 7) (j := 7) rfl (by decide) gX10_40 dX10_init_113 c10 rfl ?_
    refine wp_iload_n 1 dX10_init_116 rfl ?_
    refine wp_new (ci := 4) rfl qX10_30 iX6 inX6 dX10_init_117 ?_
    refine wp_dup dX10_init_120 rfl ?_
    have c11 := k.1
    replace k := k.2
    refine wp_callI (y' := mX6_init) (st := [jR (hS h), jI a1, jR (hR h 707 a0)]) [] rfl fX6_init kX10_32 nX6_init dX10_init_121 (Nat.le_of_ble_eq_true rfl) c11 ?_
    refine jCall.mono k (fun o h121 k => ?_)
    obtain ⟨e, k⟩ := k
    refine ⟨e, ?_⟩
    show jWp (d + 1) mX10_init 124 [(0, jR a0), (1, jI a1)] [jR (hS h), jI a1, jR (hR h 707 a0)] h121 Q
    have c12 := k.1
    replace k := k.2
    have c13 := k.1
    replace k := k.2
    have c14 := k.1
    replace k := k.2
    have c15 := k.1
    replace k := k.2
    refine wp_aastore (n := 15) dX10_init_124 c12 (Or.inr ⟨rfl, c15⟩) c13 c14 ?_
    have c16 := k.1
    replace k := k.2
    refine wp_iinc 1 [1, 0] (ls' := [(0, jR a0), (1, jI (a1 + 1))]) dX10_init_125 rfl c16 ⟨by decide, by decide⟩ (by decide) rfl ?_
    refine wp_goto 106 dX10_init_128 rfl ?_
    exact k
theorem bX10_feed {d : Nat} {h : jH} {Q : jO → jH → Prop} {a0 : Nat} {a1 : Int} {a2 : Int} {a3 : Int} {a4 : Int} {a5 : Int} (k : jOK h → j32 a1 → j32 a2 → j32 a3 → j32 a4 → j32 a5 → hK h a0 = 8 ∧ hK h (hR h 700 a0) = 6 ∧ jCall d mX7_count [jR (hR h 700 a0)] h (fun o h4 => ∃ v4, o = .inl (some (jI v4)) ∧ j32 (v4 + 20) ∧ (((v4 + 20) ≤ 600 → hK h4 a0 = 8 ∧ jCall d mX10_putBytes [jR a0, jI a1] h4 (fun o h20 => o = .inl none ∧ hK h20 a0 = 8 ∧ jCall d mX10_putBytes [jR a0, jI a2] h20 (fun o h25 => o = .inl none ∧ hK h25 a0 = 8 ∧ jCall d mX10_putBytes [jR a0, jI a3] h25 (fun o h30 => o = .inl none ∧ hK h30 a0 = 8 ∧ jCall d mX10_putBytes [jR a0, jI a4] h30 (fun o h36 => o = .inl none ∧ hK h36 a0 = 8 ∧ jCall d mX10_putBytes [jR a0, jI a5] h36 (fun o h42 => o = .inl none ∧ hK h42 a0 = 8 ∧ hK h42 (hR h42 700 a0) = 6 ∧ jCall d mX7_count [jR (hR h42 700 a0)] h42 (fun o h49 => ∃ v49, o = .inl (some (jI v49)) ∧ Q (.inl (some (jI v49))) h49))))))) ∧ (¬ ((v4 + 20) ≤ 600) → Q (.inl (some (jI (-1)))) h4)))) : jCall (d + 1) mX10_feed [jR a0, jI a1, jI a2, jI a3, jI a4, jI a5] h Q := by
  refine jCall_of plX10 (Nat.le_of_ble_eq_true rfl) ?_
  show jWp (d + 1) mX10_feed 0 [(0, jR a0), (1, jI a1), (2, jI a2), (3, jI a3), (4, jI a4), (5, jI a5)] [] h Q
  refine jw_ok (fun ok q => ?_)
  replace k := k ok (q _ (.tail _ (.head _))) (q _ (.tail _ (.tail _ (.head _)))) (q _ (.tail _ (.tail _ (.tail _ (.head _))))) (q _ (.tail _ (.tail _ (.tail _ (.tail _ (.head _)))))) (q _ (.tail _ (.tail _ (.tail _ (.tail _ (.tail _ (.head _)))))))
  refine wp_aload_n 0 dX10_feed_0 rfl ?_
  have c1 := k.1
  replace k := k.2
  refine wp_getR (ci := 7) (j := 0) rfl (by decide) gX10_14 dX10_feed_1 c1 rfl ?_
  have c2 := k.1
  replace k := k.2
  refine wp_callV (ci := 5) (y' := mX7_count) (st := []) [] rfl rfl rfl fX7_count kX10_84 nX7_count dX10_feed_4 (Nat.le_of_ble_eq_true rfl) c2 ?_
  refine jCall.mono k (fun o h4 k => ?_)
  obtain ⟨v4, e, k⟩ := k
  subst e
  show jWp (d + 1) mX10_feed 7 [(0, jR a0), (1, jI a1), (2, jI a2), (3, jI a3), (4, jI a4), (5, jI a5)] [jI v4] h4 Q
  refine wp_bipush dX10_feed_7 ⟨by decide, by decide⟩ ?_
  have c3 := k.1
  replace k := k.2
  refine wp_iadd dX10_feed_9 c3 ?_
  refine wp_sipush dX10_feed_10 ⟨by decide, by decide⟩ ?_
  refine wp_icmp_le 18 dX10_feed_13 rfl (fun q => ?_) (fun q => ?_)
  · replace k := k.1 q
    refine wp_aload_n 0 dX10_feed_18 rfl ?_
    refine wp_iload_n 1 dX10_feed_19 rfl ?_
    have c4 := k.1
    replace k := k.2
    refine wp_callV (ci := 7) (y' := mX10_putBytes) (st := []) [jI a1] rfl rfl rfl fX10_putBytes kX10_88 nX10_putBytes dX10_feed_20 (Nat.le_of_ble_eq_true rfl) c4 ?_
    refine jCall.mono k (fun o h20 k => ?_)
    obtain ⟨e, k⟩ := k
    subst e
    show jWp (d + 1) mX10_feed 23 [(0, jR a0), (1, jI a1), (2, jI a2), (3, jI a3), (4, jI a4), (5, jI a5)] [] h20 Q
    refine wp_aload_n 0 dX10_feed_23 rfl ?_
    refine wp_iload_n 2 dX10_feed_24 rfl ?_
    have c5 := k.1
    replace k := k.2
    refine wp_callV (ci := 7) (y' := mX10_putBytes) (st := []) [jI a2] rfl rfl rfl fX10_putBytes kX10_88 nX10_putBytes dX10_feed_25 (Nat.le_of_ble_eq_true rfl) c5 ?_
    refine jCall.mono k (fun o h25 k => ?_)
    obtain ⟨e, k⟩ := k
    subst e
    show jWp (d + 1) mX10_feed 28 [(0, jR a0), (1, jI a1), (2, jI a2), (3, jI a3), (4, jI a4), (5, jI a5)] [] h25 Q
    refine wp_aload_n 0 dX10_feed_28 rfl ?_
    refine wp_iload_n 3 dX10_feed_29 rfl ?_
    have c6 := k.1
    replace k := k.2
    refine wp_callV (ci := 7) (y' := mX10_putBytes) (st := []) [jI a3] rfl rfl rfl fX10_putBytes kX10_88 nX10_putBytes dX10_feed_30 (Nat.le_of_ble_eq_true rfl) c6 ?_
    refine jCall.mono k (fun o h30 k => ?_)
    obtain ⟨e, k⟩ := k
    subst e
    show jWp (d + 1) mX10_feed 33 [(0, jR a0), (1, jI a1), (2, jI a2), (3, jI a3), (4, jI a4), (5, jI a5)] [] h30 Q
    refine wp_aload_n 0 dX10_feed_33 rfl ?_
    refine wp_iload 4 dX10_feed_34 rfl ?_
    have c7 := k.1
    replace k := k.2
    refine wp_callV (ci := 7) (y' := mX10_putBytes) (st := []) [jI a4] rfl rfl rfl fX10_putBytes kX10_88 nX10_putBytes dX10_feed_36 (Nat.le_of_ble_eq_true rfl) c7 ?_
    refine jCall.mono k (fun o h36 k => ?_)
    obtain ⟨e, k⟩ := k
    subst e
    show jWp (d + 1) mX10_feed 39 [(0, jR a0), (1, jI a1), (2, jI a2), (3, jI a3), (4, jI a4), (5, jI a5)] [] h36 Q
    refine wp_aload_n 0 dX10_feed_39 rfl ?_
    refine wp_iload 5 dX10_feed_40 rfl ?_
    have c8 := k.1
    replace k := k.2
    refine wp_callV (ci := 7) (y' := mX10_putBytes) (st := []) [jI a5] rfl rfl rfl fX10_putBytes kX10_88 nX10_putBytes dX10_feed_42 (Nat.le_of_ble_eq_true rfl) c8 ?_
    refine jCall.mono k (fun o h42 k => ?_)
    obtain ⟨e, k⟩ := k
    subst e
    show jWp (d + 1) mX10_feed 45 [(0, jR a0), (1, jI a1), (2, jI a2), (3, jI a3), (4, jI a4), (5, jI a5)] [] h42 Q
    refine wp_aload_n 0 dX10_feed_45 rfl ?_
    have c9 := k.1
    replace k := k.2
    refine wp_getR (ci := 7) (j := 0) rfl (by decide) gX10_14 dX10_feed_46 c9 rfl ?_
    have c10 := k.1
    replace k := k.2
    refine wp_callV (ci := 5) (y' := mX7_count) (st := []) [] rfl rfl rfl fX7_count kX10_84 nX7_count dX10_feed_49 (Nat.le_of_ble_eq_true rfl) c10 ?_
    refine jCall.mono k (fun o h49 k => ?_)
    obtain ⟨v49, e, k⟩ := k
    subst e
    show jWp (d + 1) mX10_feed 52 [(0, jR a0), (1, jI a1), (2, jI a2), (3, jI a3), (4, jI a4), (5, jI a5)] [jI v49] h49 Q
    exact wp_iret dX10_feed_52 rfl k
  · replace k := k.2 q
    refine wp_iconst dX10_feed_16 ⟨by decide, by decide⟩ ?_
    exact wp_iret dX10_feed_17 rfl k
theorem bX10_putBytes {d : Nat} {h : jH} {Q : jO → jH → Prop} {a0 : Nat} {a1 : Int} (k : jOK h → j32 a1 → jWp (d + 1) mX10_putBytes 3 [(0, jR a0), (1, jI a1), (2, jI 24)] [] h Q) : jCall (d + 1) mX10_putBytes [jR a0, jI a1] h Q := by
  refine jCall_of plX10 (Nat.le_of_ble_eq_true rfl) ?_
  show jWp (d + 1) mX10_putBytes 0 [(0, jR a0), (1, jI a1)] [] h Q
  refine jw_ok (fun ok q => ?_)
  replace k := k ok (q _ (.tail _ (.head _)))
  refine wp_bipush dX10_putBytes_0 ⟨by decide, by decide⟩ ?_
  refine wp_istore_n [1, 2, 0] (ls' := [(0, jR a0), (1, jI a1), (2, jI 24)]) dX10_putBytes_2 (by decide) rfl ?_
  exact k
theorem bX10_putBytes_3 {d : Nat} {h : jH} {Q : jO → jH → Prop} {a0 : Nat} {a1 : Int} {a2 : Int} (k : jOK h → j32 a1 → j32 a2 → ((a2 < 0 → Q (.inl none) h) ∧ (¬ (a2 < 0) → hK h a0 = 8 ∧ 0 ≤ a2 ∧ a2 < 32 ∧ hK h (hR h 700 a0) = 6 ∧ jCall d mX7_put [jR (hR h 700 a0), jI ((a1 / 2 ^ (a2).toNat) % 256)] h (fun o h18 => o = .inl none ∧ j32 (a2 + (-8)) ∧ jWp (d + 1) mX10_putBytes 3 [(0, jR a0), (1, jI a1), (2, jI (a2 + (-8)))] [] h18 Q)))) : jWp (d + 1) mX10_putBytes 3 [(0, jR a0), (1, jI a1), (2, jI a2)] [] h Q := by
  refine jw_ok (fun ok q => ?_)
  replace k := k ok (q _ (.tail _ (.head _))) (q _ (.tail _ (.tail _ (.head _))))
  refine wp_iload_n 2 dX10_putBytes_3 rfl ?_
  refine wp_if_lt 27 dX10_putBytes_4 rfl (fun q => ?_) (fun q => ?_)
  · replace k := k.1 q
    exact wp_return dX10_putBytes_27 rfl k
  · replace k := k.2 q
    refine wp_aload_n 0 dX10_putBytes_7 rfl ?_
    have c1 := k.1
    replace k := k.2
    refine wp_getR (ci := 7) (j := 0) rfl (by decide) gX10_14 dX10_putBytes_8 c1 rfl ?_
    refine wp_iload_n 1 dX10_putBytes_11 rfl ?_
    refine wp_iload_n 2 dX10_putBytes_12 rfl ?_
    have c2 := k.1
    replace k := k.2
    have c3 := k.1
    replace k := k.2
    refine wp_ishr dX10_putBytes_13 c2 c3 ?_
    refine wp_sipush dX10_putBytes_14 ⟨by decide, by decide⟩ ?_
    refine wp_iand255 dX10_putBytes_17 ?_
    have c4 := k.1
    replace k := k.2
    refine wp_callV (ci := 5) (y' := mX7_put) (st := []) [jI ((a1 / 2 ^ (a2).toNat) % 256)] rfl rfl rfl fX7_put kX10_91 nX7_put dX10_putBytes_18 (Nat.le_of_ble_eq_true rfl) c4 ?_
    refine jCall.mono k (fun o h18 k => ?_)
    obtain ⟨e, k⟩ := k
    subst e
    show jWp (d + 1) mX10_putBytes 21 [(0, jR a0), (1, jI a1), (2, jI a2)] [] h18 Q
    have c5 := k.1
    replace k := k.2
    refine wp_iinc 2 [1, 2, 0] (ls' := [(0, jR a0), (1, jI a1), (2, jI (a2 + (-8)))]) dX10_putBytes_21 rfl c5 ⟨by decide, by decide⟩ (by decide) rfl ?_
    refine wp_goto 3 dX10_putBytes_24 rfl ?_
    exact k
theorem bX10_end {d : Nat} {h : jH} {Q : jO → jH → Prop} {a0 : Nat} {a1 : Int} (k : jOK h → j32 a1 → hK h a0 = 8 ∧ hK h (hR h 700 a0) = 6 ∧ jCall d mX7_shorten [jR (hR h 700 a0), jI a1] h (fun o h5 => ∃ v5, o = .inl (some (jI v5)) ∧ (0 ≤ v5 ∧ v5 ≤ 1) ∧ Q (.inl (some (jI v5))) h5)) : jCall (d + 1) mX10_end [jR a0, jI a1] h Q := by
  refine jCall_of plX10 (Nat.le_of_ble_eq_true rfl) ?_
  show jWp (d + 1) mX10_end 0 [(0, jR a0), (1, jI a1)] [] h Q
  refine jw_ok (fun ok q => ?_)
  replace k := k ok (q _ (.tail _ (.head _)))
  refine wp_aload_n 0 dX10_end_0 rfl ?_
  have c1 := k.1
  replace k := k.2
  refine wp_getR (ci := 7) (j := 0) rfl (by decide) gX10_14 dX10_end_1 c1 rfl ?_
  refine wp_iload_n 1 dX10_end_4 rfl ?_
  have c2 := k.1
  replace k := k.2
  refine wp_callV (ci := 5) (y' := mX7_shorten) (st := []) [jI a1] rfl rfl rfl fX7_shorten kX10_94 nX7_shorten dX10_end_5 (Nat.le_of_ble_eq_true rfl) c2 ?_
  refine jCall.mono k (fun o h5 k => ?_)
  obtain ⟨v5, e, k⟩ := k
  subst e
  show jWp (d + 1) mX10_end 8 [(0, jR a0), (1, jI a1)] [jI v5] h5 Q
  have c3 := k.1
  replace k := k.2
  exact wp_zreturn dX10_end_8 rfl c3.1 c3.2 k
theorem bX10_take {d : Nat} {h : jH} {Q : jO → jH → Prop} {a0 : Nat} (k : jOK h → hK h a0 = 8 ∧ hK h (hR h 700 a0) = 6 ∧ jCall d mX7_copyFrom [jR (hR h 700 a0), jR (hR h 701 a0)] h (fun o h8 => o = .inl none ∧ hK h8 a0 = 8 ∧ hK h8 (hR h8 700 a0) = 6 ∧ jCall d mX7_count [jR (hR h8 700 a0)] h8 (fun o h15 => ∃ v15, o = .inl (some (jI v15)) ∧ Q (.inl (some (jI v15))) h15))) : jCall (d + 1) mX10_take [jR a0] h Q := by
  refine jCall_of plX10 (Nat.le_of_ble_eq_true rfl) ?_
  show jWp (d + 1) mX10_take 0 [(0, jR a0)] [] h Q
  refine jw_ok (fun ok q => ?_)
  replace k := k ok 
  refine wp_aload_n 0 dX10_take_0 rfl ?_
  have c1 := k.1
  replace k := k.2
  refine wp_getR (ci := 7) (j := 0) rfl (by decide) gX10_14 dX10_take_1 c1 rfl ?_
  refine wp_aload_n 0 dX10_take_4 rfl ?_
  refine wp_getR (ci := 7) (j := 1) rfl (by decide) gX10_18 dX10_take_5 c1 rfl ?_
  have c2 := k.1
  replace k := k.2
  refine wp_callV (ci := 5) (y' := mX7_copyFrom) (st := []) [jR (hR h 701 a0)] rfl rfl rfl fX7_copyFrom kX10_98 nX7_copyFrom dX10_take_8 (Nat.le_of_ble_eq_true rfl) c2 ?_
  refine jCall.mono k (fun o h8 k => ?_)
  obtain ⟨e, k⟩ := k
  subst e
  show jWp (d + 1) mX10_take 11 [(0, jR a0)] [] h8 Q
  refine wp_aload_n 0 dX10_take_11 rfl ?_
  have c3 := k.1
  replace k := k.2
  refine wp_getR (ci := 7) (j := 0) rfl (by decide) gX10_14 dX10_take_12 c3 rfl ?_
  have c4 := k.1
  replace k := k.2
  refine wp_callV (ci := 5) (y' := mX7_count) (st := []) [] rfl rfl rfl fX7_count kX10_84 nX7_count dX10_take_15 (Nat.le_of_ble_eq_true rfl) c4 ?_
  refine jCall.mono k (fun o h15 k => ?_)
  obtain ⟨v15, e, k⟩ := k
  subst e
  show jWp (d + 1) mX10_take 18 [(0, jR a0)] [jI v15] h15 Q
  exact wp_iret dX10_take_18 rfl k
theorem bX10_clock {d : Nat} {h : jH} {Q : jO → jH → Prop} {a0 : Nat} {a1 : Int} (k : jOK h → j32 a1 → ((a1 < 1950 → Q (.inl (some (jI 0))) h) ∧ (¬ (a1 < 1950) → ((a1 ≤ 2200 → hK h a0 = 8 ∧ Q (.inl (some (jI 1))) (sI h 712 a0 a1)) ∧ (¬ (a1 ≤ 2200) → Q (.inl (some (jI 0))) h))))) : jCall d mX10_clock [jR a0, jI a1] h Q := by
  refine jCall_of plX10 (Nat.le_of_ble_eq_true rfl) ?_
  show jWp d mX10_clock 0 [(0, jR a0), (1, jI a1)] [] h Q
  refine jw_ok (fun ok q => ?_)
  replace k := k ok (q _ (.tail _ (.head _)))
  refine wp_iload_n 1 dX10_clock_0 rfl ?_
  refine wp_sipush dX10_clock_1 ⟨by decide, by decide⟩ ?_
  refine wp_icmp_lt 14 dX10_clock_4 rfl (fun q => ?_) (fun q => ?_)
  · replace k := k.1 q
    refine wp_iconst dX10_clock_14 ⟨by decide, by decide⟩ ?_
    exact wp_zreturn dX10_clock_15 rfl (by decide) (by decide) k
  · replace k := k.2 q
    refine wp_iload_n 1 dX10_clock_7 rfl ?_
    refine wp_sipush dX10_clock_8 ⟨by decide, by decide⟩ ?_
    refine wp_icmp_le 16 dX10_clock_11 rfl (fun q => ?_) (fun q => ?_)
    · replace k := k.1 q
      refine wp_aload_n 0 dX10_clock_16 rfl ?_
      refine wp_iload_n 1 dX10_clock_17 rfl ?_
      have c1 := k.1
      replace k := k.2
      refine wp_putI (ci := 7) (j := 12) rfl (by decide) gX10_74 dX10_clock_18 c1 (Or.inl rfl) rfl ?_
      refine wp_iconst dX10_clock_21 ⟨by decide, by decide⟩ ?_
      exact wp_zreturn dX10_clock_22 rfl (by decide) (by decide) k
    · replace k := k.2 q
      refine wp_iconst dX10_clock_14 ⟨by decide, by decide⟩ ?_
      exact wp_zreturn dX10_clock_15 rfl (by decide) (by decide) k
theorem bX10_read {d : Nat} {h : jH} {Q : jO → jH → Prop} {a0 : Nat} {a1 : Int} (k : jOK h → j32 a1 → hK h a0 = 8 ∧ (j32 (hI h 712 a0) → hK h (hR h 708 a0) = 7 ∧ jCall d mX9_readText [jR (hR h 708 a0), jR (hR h 700 a0), jI a1, jI 1, jI (hI h 712 a0)] h (fun o h14 => o = .inl none ∧ hK h14 a0 = 8 ∧ hK h14 (hR h14 700 a0) = 6 ∧ jCall d mX7_clear [jR (hR h14 700 a0)] h14 (fun o h21 => o = .inl none ∧ hK h21 a0 = 8 ∧ jCall d mX10_acceptText [jR a0] h21 (fun o h25 => ∃ v25, o = .inl (some (jI v25)) ∧ Q (.inl (some (jI v25))) h25))))) : jCall (d + 1) mX10_read [jR a0, jI a1] h Q := by
  refine jCall_of plX10 (Nat.le_of_ble_eq_true rfl) ?_
  show jWp (d + 1) mX10_read 0 [(0, jR a0), (1, jI a1)] [] h Q
  refine jw_ok (fun ok q => ?_)
  replace k := k ok (q _ (.tail _ (.head _)))
  refine wp_aload_n 0 dX10_read_0 rfl ?_
  have c1 := k.1
  replace k := k.2
  refine wp_getR (ci := 7) (j := 8) rfl (by decide) gX10_47 dX10_read_1 c1 rfl ?_
  refine wp_aload_n 0 dX10_read_4 rfl ?_
  refine wp_getR (ci := 7) (j := 0) rfl (by decide) gX10_14 dX10_read_5 c1 rfl ?_
  refine wp_iload_n 1 dX10_read_8 rfl ?_
  refine wp_iconst dX10_read_9 ⟨by decide, by decide⟩ ?_
  refine wp_aload_n 0 dX10_read_10 rfl ?_
  refine wp_getI (ci := 7) (j := 12) rfl (by decide) gX10_74 dX10_read_11 c1 rfl (fun q => ?_)
  have f2 := q
  replace k := k q
  have c3 := k.1
  replace k := k.2
  refine wp_callV (ci := 6) (y' := mX9_readText) (st := []) [jR (hR h 700 a0), jI a1, jI 1, jI (hI h 712 a0)] rfl rfl rfl fX9_readText kX10_102 nX9_readText dX10_read_14 (Nat.le_of_ble_eq_true rfl) c3 ?_
  refine jCall.mono k (fun o h14 k => ?_)
  obtain ⟨e, k⟩ := k
  subst e
  show jWp (d + 1) mX10_read 17 [(0, jR a0), (1, jI a1)] [] h14 Q
  refine wp_aload_n 0 dX10_read_17 rfl ?_
  have c4 := k.1
  replace k := k.2
  refine wp_getR (ci := 7) (j := 0) rfl (by decide) gX10_14 dX10_read_18 c4 rfl ?_
  have c5 := k.1
  replace k := k.2
  refine wp_callV (ci := 5) (y' := mX7_clear) (st := []) [] rfl rfl rfl fX7_clear kX10_106 nX7_clear dX10_read_21 (Nat.le_of_ble_eq_true rfl) c5 ?_
  refine jCall.mono k (fun o h21 k => ?_)
  obtain ⟨e, k⟩ := k
  subst e
  show jWp (d + 1) mX10_read 24 [(0, jR a0), (1, jI a1)] [] h21 Q
  refine wp_aload_n 0 dX10_read_24 rfl ?_
  have c6 := k.1
  replace k := k.2
  refine wp_callV (ci := 7) (y' := mX10_acceptText) (st := []) [] rfl rfl rfl fX10_acceptText kX10_109 nX10_acceptText dX10_read_25 (Nat.le_of_ble_eq_true rfl) c6 ?_
  refine jCall.mono k (fun o h25 k => ?_)
  obtain ⟨v25, e, k⟩ := k
  subst e
  show jWp (d + 1) mX10_read 28 [(0, jR a0), (1, jI a1)] [jI v25] h25 Q
  exact wp_iret dX10_read_28 rfl k
theorem bX10_acceptText {d : Nat} {h : jH} {Q : jO → jH → Prop} {a0 : Nat} (k : jOK h → hK h a0 = 8 ∧ hK h (hR h 708 a0) = 7 ∧ jCall d mX9_faultSort [jR (hR h 708 a0)] h (fun o h5 => ∃ v5, o = .inl (some (jI v5)) ∧ hK h5 a0 = 8 ∧ hK h5 (hR h5 708 a0) = 7 ∧ jCall d mX9_faultPlace [jR (hR h5 708 a0)] h5 (fun o h12 => ∃ v12, o = .inl (some (jI v12)) ∧ hK h12 a0 = 8 ∧ jCall d mX10_noteFault [jR a0, jI v5, jI v12] h12 (fun o h15 => o = .inl none ∧ hK h15 a0 = 8 ∧ (j32 (hI h15 713 a0) → (((hI h15 713 a0) = 0 → hK h15 (hR h15 708 a0) = 7 ∧ jCall d mX9_label [jR (hR h15 708 a0)] h15 (fun o h35 => ∃ v35, o = .inl (some (jR v35)) ∧ hK h35 (hR h15 705 a0) = 5 ∧ jCall d mX6_copyFrom [jR (hR h15 705 a0), jR v35] h35 (fun o h38 => o = .inl none ∧ hK h38 a0 = 8 ∧ hK h38 (hR h38 705 a0) = 5 ∧ jCall d mX6_count [jR (hR h38 705 a0)] h38 (fun o h45 => ∃ v45, o = .inl (some (jI v45)) ∧ Q (.inl (some (jI v45))) h45)))) ∧ (¬ ((hI h15 713 a0) = 0) → Q (.inl (some (jI (-1)))) h15))))))) : jCall (d + 1) mX10_acceptText [jR a0] h Q := by
  refine jCall_of plX10 (Nat.le_of_ble_eq_true rfl) ?_
  show jWp (d + 1) mX10_acceptText 0 [(0, jR a0)] [] h Q
  refine jw_ok (fun ok q => ?_)
  replace k := k ok 
  refine wp_aload_n 0 dX10_acceptText_0 rfl ?_
  refine wp_aload_n 0 dX10_acceptText_1 rfl ?_
  have c1 := k.1
  replace k := k.2
  refine wp_getR (ci := 7) (j := 8) rfl (by decide) gX10_47 dX10_acceptText_2 c1 rfl ?_
  have c2 := k.1
  replace k := k.2
  refine wp_callV (ci := 6) (y' := mX9_faultSort) (st := [jR a0]) [] rfl rfl rfl fX9_faultSort kX10_112 nX9_faultSort dX10_acceptText_5 (Nat.le_of_ble_eq_true rfl) c2 ?_
  refine jCall.mono k (fun o h5 k => ?_)
  obtain ⟨v5, e, k⟩ := k
  subst e
  show jWp (d + 1) mX10_acceptText 8 [(0, jR a0)] [jI v5, jR a0] h5 Q
  refine wp_aload_n 0 dX10_acceptText_8 rfl ?_
  have c3 := k.1
  replace k := k.2
  refine wp_getR (ci := 7) (j := 8) rfl (by decide) gX10_47 dX10_acceptText_9 c3 rfl ?_
  have c4 := k.1
  replace k := k.2
  refine wp_callV (ci := 6) (y' := mX9_faultPlace) (st := [jI v5, jR a0]) [] rfl rfl rfl fX9_faultPlace kX10_114 nX9_faultPlace dX10_acceptText_12 (Nat.le_of_ble_eq_true rfl) c4 ?_
  refine jCall.mono k (fun o h12 k => ?_)
  obtain ⟨v12, e, k⟩ := k
  subst e
  show jWp (d + 1) mX10_acceptText 15 [(0, jR a0)] [jI v12, jI v5, jR a0] h12 Q
  have c5 := k.1
  replace k := k.2
  refine wp_callV (ci := 7) (y' := mX10_noteFault) (st := []) [jI v5, jI v12] rfl rfl rfl fX10_noteFault kX10_116 nX10_noteFault dX10_acceptText_15 (Nat.le_of_ble_eq_true rfl) c5 ?_
  refine jCall.mono k (fun o h15 k => ?_)
  obtain ⟨e, k⟩ := k
  subst e
  show jWp (d + 1) mX10_acceptText 18 [(0, jR a0)] [] h15 Q
  refine wp_aload_n 0 dX10_acceptText_18 rfl ?_
  have c6 := k.1
  replace k := k.2
  refine wp_getI (ci := 7) (j := 13) rfl (by decide) gX10_78 dX10_acceptText_19 c6 rfl (fun q => ?_)
  have f7 := q
  replace k := k q
  refine wp_if_eq 27 dX10_acceptText_22 rfl (fun q => ?_) (fun q => ?_)
  · replace k := k.1 q
    refine wp_aload_n 0 dX10_acceptText_27 rfl ?_
    refine wp_getR (ci := 7) (j := 5) rfl (by decide) gX10_33 dX10_acceptText_28 c6 rfl ?_
    refine wp_aload_n 0 dX10_acceptText_31 rfl ?_
    refine wp_getR (ci := 7) (j := 8) rfl (by decide) gX10_47 dX10_acceptText_32 c6 rfl ?_
    have c8 := k.1
    replace k := k.2
    refine wp_callV (ci := 6) (y' := mX9_label) (st := [jR (hR h15 705 a0)]) [] rfl rfl rfl fX9_label kX10_120 nX9_label dX10_acceptText_35 (Nat.le_of_ble_eq_true rfl) c8 ?_
    refine jCall.mono k (fun o h35 k => ?_)
    obtain ⟨v35, e, k⟩ := k
    subst e
    show jWp (d + 1) mX10_acceptText 38 [(0, jR a0)] [jR v35, jR (hR h15 705 a0)] h35 Q
    have c9 := k.1
    replace k := k.2
    refine wp_callV (ci := 4) (y' := mX6_copyFrom) (st := []) [jR v35] rfl rfl rfl fX6_copyFrom kX10_124 nX6_copyFrom dX10_acceptText_38 (Nat.le_of_ble_eq_true rfl) c9 ?_
    refine jCall.mono k (fun o h38 k => ?_)
    obtain ⟨e, k⟩ := k
    subst e
    show jWp (d + 1) mX10_acceptText 41 [(0, jR a0)] [] h38 Q
    refine wp_aload_n 0 dX10_acceptText_41 rfl ?_
    have c10 := k.1
    replace k := k.2
    refine wp_getR (ci := 7) (j := 5) rfl (by decide) gX10_33 dX10_acceptText_42 c10 rfl ?_
    have c11 := k.1
    replace k := k.2
    refine wp_callV (ci := 4) (y' := mX6_count) (st := []) [] rfl rfl rfl fX6_count kX10_127 nX6_count dX10_acceptText_45 (Nat.le_of_ble_eq_true rfl) c11 ?_
    refine jCall.mono k (fun o h45 k => ?_)
    obtain ⟨v45, e, k⟩ := k
    subst e
    show jWp (d + 1) mX10_acceptText 48 [(0, jR a0)] [jI v45] h45 Q
    exact wp_iret dX10_acceptText_48 rfl k
  · replace k := k.2 q
    refine wp_iconst dX10_acceptText_25 ⟨by decide, by decide⟩ ?_
    exact wp_iret dX10_acceptText_26 rfl k
theorem bX10_noteFault {d : Nat} {h : jH} {Q : jO → jH → Prop} {a0 : Nat} {a1 : Int} {a2 : Int} (k : jOK h → j32 a1 → j32 a2 → hK h a0 = 8 ∧ Q (.inl none) (sI (sI h 713 a0 a1) 714 a0 a2)) : jCall d mX10_noteFault [jR a0, jI a1, jI a2] h Q := by
  refine jCall_of plX10 (Nat.le_of_ble_eq_true rfl) ?_
  show jWp d mX10_noteFault 0 [(0, jR a0), (1, jI a1), (2, jI a2)] [] h Q
  refine jw_ok (fun ok q => ?_)
  replace k := k ok (q _ (.tail _ (.head _))) (q _ (.tail _ (.tail _ (.head _))))
  refine wp_aload_n 0 dX10_noteFault_0 rfl ?_
  refine wp_iload_n 1 dX10_noteFault_1 rfl ?_
  have c1 := k.1
  replace k := k.2
  refine wp_putI (ci := 7) (j := 13) rfl (by decide) gX10_78 dX10_noteFault_2 c1 (Or.inl rfl) rfl ?_
  refine wp_aload_n 0 dX10_noteFault_5 rfl ?_
  refine wp_iload_n 2 dX10_noteFault_6 rfl ?_
  refine wp_putI (ci := 7) (j := 14) rfl (by decide) gX10_81 dX10_noteFault_7 c1 (Or.inl rfl) rfl ?_
  exact wp_return dX10_noteFault_10 rfl k
theorem bX10_fault {d : Nat} {h : jH} {Q : jO → jH → Prop} {a0 : Nat} {a1 : Int} (k : jOK h → j32 a1 → ((a1 = 0 → hK h a0 = 8 ∧ (j32 (hI h 713 a0) → Q (.inl (some (jI (hI h 713 a0)))) h)) ∧ (a1 = 1 → hK h a0 = 8 ∧ (j32 (hI h 714 a0) → Q (.inl (some (jI (hI h 714 a0)))) h)) ∧ (a1 ≠ 0 → a1 ≠ 1 → Q (.inl (some (jI (-1)))) h))) : jCall d mX10_fault [jR a0, jI a1] h Q := by
  refine jCall_of plX10 (Nat.le_of_ble_eq_true rfl) ?_
  show jWp d mX10_fault 0 [(0, jR a0), (1, jI a1)] [] h Q
  refine jw_ok (fun ok q => ?_)
  replace k := k ok (q _ (.tail _ (.head _)))
  refine wp_iload_n 1 dX10_fault_0 rfl ?_
  by_cases q0 : a1 = 0
  · refine wp_lookup dX10_fault_1 rfl 28 (off := 27) (by rw [q0]; rfl) rfl ?_
    replace k := k.1 q0
    refine wp_aload_n 0 dX10_fault_28 rfl ?_
    have c1 := k.1
    replace k := k.2
    refine wp_getI (ci := 7) (j := 13) rfl (by decide) gX10_78 dX10_fault_29 c1 rfl (fun q => ?_)
    have f2 := q
    replace k := k q
    exact wp_iret dX10_fault_32 rfl k
  by_cases q1 : a1 = 1
  · refine wp_lookup dX10_fault_1 rfl 33 (off := 32) (by rw [q1]; rfl) rfl ?_
    replace k := k.2.1 q1
    refine wp_aload_n 0 dX10_fault_33 rfl ?_
    have c3 := k.1
    replace k := k.2
    refine wp_getI (ci := 7) (j := 14) rfl (by decide) gX10_81 dX10_fault_34 c3 rfl (fun q => ?_)
    have f4 := q
    replace k := k q
    exact wp_iret dX10_fault_37 rfl k
  refine wp_lookup dX10_fault_1 rfl 38 (off := 37) (by simp [Op.lookupswitch.offset_cons, j_lk0, q0, q1, Ne.symm q0, Ne.symm q1]) rfl ?_
  replace k := k.2.2 q0 q1
  refine wp_iconst dX10_fault_38 ⟨by decide, by decide⟩ ?_
  exact wp_iret dX10_fault_39 rfl k
theorem bX10_list {d : Nat} {h : jH} {Q : jO → jH → Prop} {a0 : Nat} {a1 : Int} (k : jOK h → j32 a1 → ((a1 = 0 → hK h a0 = 8 ∧ hK h (hR h 705 a0) = 5 ∧ jCall d mX6_count [jR (hR h 705 a0)] h (fun o h32 => ∃ v32, o = .inl (some (jI v32)) ∧ Q (.inl (some (jI v32))) h32)) ∧ (a1 = 1 → hK h a0 = 8 ∧ hK h (hR h 705 a0) = 5 ∧ jCall d mX6_stringBytes [jR (hR h 705 a0)] h (fun o h40 => ∃ v40, o = .inl (some (jI v40)) ∧ Q (.inl (some (jI v40))) h40)) ∧ (a1 = 2 → hK h a0 = 8 ∧ hK h (hR h 705 a0) = 5 ∧ jCall d mX6_symbols [jR (hR h 705 a0)] h (fun o h48 => ∃ v48, o = .inl (some (jI v48)) ∧ Q (.inl (some (jI v48))) h48)) ∧ (a1 ≠ 0 → a1 ≠ 1 → a1 ≠ 2 → Q (.inl (some (jI (-1)))) h))) : jCall (d + 1) mX10_list [jR a0, jI a1] h Q := by
  refine jCall_of plX10 (Nat.le_of_ble_eq_true rfl) ?_
  show jWp (d + 1) mX10_list 0 [(0, jR a0), (1, jI a1)] [] h Q
  refine jw_ok (fun ok q => ?_)
  replace k := k ok (q _ (.tail _ (.head _)))
  refine wp_iload_n 1 dX10_list_0 rfl ?_
  refine wp_table dX10_list_1 52 rfl (fun q => ?_) (fun q q9 => ?_)
  · replace k := k.2.2.2 (by omega) (by omega) (by omega)
    refine wp_iconst dX10_list_52 ⟨by decide, by decide⟩ ?_
    exact wp_iret dX10_list_53 rfl k
  · have q8 : a1 = 0 ∨ a1 = 1 ∨ a1 = 2 := by omega
    rcases q8 with q8 | q8 | q8
    · refine ⟨27, 28, by rw [q8]; rfl, rfl, ?_⟩
      replace k := k.1 q8
      refine wp_aload_n 0 dX10_list_28 rfl ?_
      have c1 := k.1
      replace k := k.2
      refine wp_getR (ci := 7) (j := 5) rfl (by decide) gX10_33 dX10_list_29 c1 rfl ?_
      have c2 := k.1
      replace k := k.2
      refine wp_callV (ci := 4) (y' := mX6_count) (st := []) [] rfl rfl rfl fX6_count kX10_127 nX6_count dX10_list_32 (Nat.le_of_ble_eq_true rfl) c2 ?_
      refine jCall.mono k (fun o h32 k => ?_)
      obtain ⟨v32, e, k⟩ := k
      subst e
      show jWp (d + 1) mX10_list 35 [(0, jR a0), (1, jI a1)] [jI v32] h32 Q
      exact wp_iret dX10_list_35 rfl k
    · refine ⟨35, 36, by rw [q8]; rfl, rfl, ?_⟩
      replace k := k.2.1 q8
      refine wp_aload_n 0 dX10_list_36 rfl ?_
      have c3 := k.1
      replace k := k.2
      refine wp_getR (ci := 7) (j := 5) rfl (by decide) gX10_33 dX10_list_37 c3 rfl ?_
      have c4 := k.1
      replace k := k.2
      refine wp_callV (ci := 4) (y' := mX6_stringBytes) (st := []) [] rfl rfl rfl fX6_stringBytes kX10_128 nX6_stringBytes dX10_list_40 (Nat.le_of_ble_eq_true rfl) c4 ?_
      refine jCall.mono k (fun o h40 k => ?_)
      obtain ⟨v40, e, k⟩ := k
      subst e
      show jWp (d + 1) mX10_list 43 [(0, jR a0), (1, jI a1)] [jI v40] h40 Q
      exact wp_iret dX10_list_43 rfl k
    · refine ⟨43, 44, by rw [q8]; rfl, rfl, ?_⟩
      replace k := k.2.2.1 q8
      refine wp_aload_n 0 dX10_list_44 rfl ?_
      have c5 := k.1
      replace k := k.2
      refine wp_getR (ci := 7) (j := 5) rfl (by decide) gX10_33 dX10_list_45 c5 rfl ?_
      have c6 := k.1
      replace k := k.2
      refine wp_callV (ci := 4) (y' := mX6_symbols) (st := []) [] rfl rfl rfl fX6_symbols kX10_131 nX6_symbols dX10_list_48 (Nat.le_of_ble_eq_true rfl) c6 ?_
      refine jCall.mono k (fun o h48 k => ?_)
      obtain ⟨v48, e, k⟩ := k
      subst e
      show jWp (d + 1) mX10_list 51 [(0, jR a0), (1, jI a1)] [jI v48] h48 Q
      exact wp_iret dX10_list_51 rfl k
theorem bX10_element {d : Nat} {h : jH} {Q : jO → jH → Prop} {a0 : Nat} {a1 : Int} {a2 : Int} (k : jOK h → j32 a1 → j32 a2 → hK h a0 = 8 ∧ jCall d mX10_elementAt [jR a0, jI a1] h (fun o h2 => (∃ v2, o = .inl (some (jR v2)) ∧ ((a2 = 0 → hK h2 v2 = 3 ∧ jCall d mX4_ai [jR v2] h2 (fun o h45 => ∃ v45, o = .inl (some (jI v45)) ∧ Q (.inl (some (jI v45))) h45)) ∧ (a2 = 1 → hK h2 v2 = 3 ∧ jCall d mX4_digits [jR v2] h2 (fun o h50 => ∃ v50, o = .inl (some (jI v50)) ∧ Q (.inl (some (jI v50))) h50)) ∧ (a2 = 2 → hK h2 v2 = 3 ∧ jCall d mX4_value [jR v2] h2 (fun o h55 => ∃ v55, o = .inl (some (jR v55)) ∧ hK h55 v55 = 6 ∧ jCall d mX7_count [jR v55] h55 (fun o h58 => ∃ v58, o = .inl (some (jI v58)) ∧ Q (.inl (some (jI v58))) h58))) ∧ (a2 = 3 → hK h2 v2 = 3 ∧ jCall d mX4_parts [jR v2] h2 (fun o h63 => ∃ v63, o = .inl (some (jI v63)) ∧ Q (.inl (some (jI v63))) h63)) ∧ (a2 = 4 → hK h2 v2 = 3 ∧ jCall d mX4_point [jR v2] h2 (fun o h68 => ∃ v68, o = .inl (some (jI v68)) ∧ Q (.inl (some (jI v68))) h68)) ∧ (a2 = 5 → hK h2 v2 = 3 ∧ jCall d mX4_isFixed [jR v2] h2 (fun o h73 => ∃ v73, o = .inl (some (jI v73)) ∧ ((v73 = 0 → Q (.inl (some (jI 0))) h73) ∧ (¬ (v73 = 0) → Q (.inl (some (jI 1))) h73)))) ∧ (a2 ≠ 0 → a2 ≠ 1 → a2 ≠ 2 → a2 ≠ 3 → a2 ≠ 4 → a2 ≠ 5 → Q (.inl (some (jI (-1)))) h2))) ∨ (∃ E, o = .inr E ∧ Q (.inr E) h2))) : jCall (d + 1) mX10_element [jR a0, jI a1, jI a2] h Q := by
  refine jCall_of plX10 (Nat.le_of_ble_eq_true rfl) ?_
  show jWp (d + 1) mX10_element 0 [(0, jR a0), (1, jI a1), (2, jI a2)] [] h Q
  refine jw_ok (fun ok q => ?_)
  replace k := k ok (q _ (.tail _ (.head _))) (q _ (.tail _ (.tail _ (.head _))))
  refine wp_aload_n 0 dX10_element_0 rfl ?_
  refine wp_iload_n 1 dX10_element_1 rfl ?_
  have c1 := k.1
  replace k := k.2
  refine wp_callV (ci := 7) (y' := mX10_elementAt) (st := []) [jI a1] rfl rfl rfl fX10_elementAt kX10_134 nX10_elementAt dX10_element_2 (Nat.le_of_ble_eq_true rfl) c1 ?_
  refine jCall.mono k (fun o h2 k => ?_)
  rcases k with ⟨v2, e, k⟩ | ⟨E, e, k⟩
  · subst e
    show jWp (d + 1) mX10_element 5 [(0, jR a0), (1, jI a1), (2, jI a2)] [jR v2] h2 Q
    refine wp_astore_n [3, 0] (ls' := [(2, jI a2), (3, jR v2)]) dX10_element_5 (by decide) rfl ?_
    refine wp_iload_n 0 dX10_element_6 rfl ?_
    refine wp_table dX10_element_7 85 rfl (fun q => ?_) (fun q q9 => ?_)
    · replace k := k.2.2.2.2.2.2 (by omega) (by omega) (by omega) (by omega) (by omega) (by omega)
      refine wp_iconst dX10_element_85 ⟨by decide, by decide⟩ ?_
      exact wp_iret dX10_element_86 rfl k
    · have q8 : a2 = 0 ∨ a2 = 1 ∨ a2 = 2 ∨ a2 = 3 ∨ a2 = 4 ∨ a2 = 5 := by omega
      rcases q8 with q8 | q8 | q8 | q8 | q8 | q8
      · refine ⟨37, 44, by rw [q8]; rfl, rfl, ?_⟩
        replace k := k.1 q8
        refine wp_aload_n 1 dX10_element_44 rfl ?_
        have c2 := k.1
        replace k := k.2
        refine wp_callV (ci := 2) (y' := mX4_ai) (st := []) [] rfl rfl rfl fX4_ai kX10_138 nX4_ai dX10_element_45 (Nat.le_of_ble_eq_true rfl) c2 ?_
        refine jCall.mono k (fun o h45 k => ?_)
        obtain ⟨v45, e, k⟩ := k
        subst e
        show jWp (d + 1) mX10_element 48 [(2, jI a2), (3, jR v2)] [jI v45] h45 Q
        exact wp_iret dX10_element_48 rfl k
      · refine ⟨42, 49, by rw [q8]; rfl, rfl, ?_⟩
        replace k := k.2.1 q8
        refine wp_aload_n 1 dX10_element_49 rfl ?_
        have c3 := k.1
        replace k := k.2
        refine wp_callV (ci := 2) (y' := mX4_digits) (st := []) [] rfl rfl rfl fX4_digits kX10_143 nX4_digits dX10_element_50 (Nat.le_of_ble_eq_true rfl) c3 ?_
        refine jCall.mono k (fun o h50 k => ?_)
        obtain ⟨v50, e, k⟩ := k
        subst e
        show jWp (d + 1) mX10_element 53 [(2, jI a2), (3, jR v2)] [jI v50] h50 Q
        exact wp_iret dX10_element_53 rfl k
      · refine ⟨47, 54, by rw [q8]; rfl, rfl, ?_⟩
        replace k := k.2.2.1 q8
        refine wp_aload_n 1 dX10_element_54 rfl ?_
        have c4 := k.1
        replace k := k.2
        refine wp_callV (ci := 2) (y' := mX4_value) (st := []) [] rfl rfl rfl fX4_value kX10_146 nX4_value dX10_element_55 (Nat.le_of_ble_eq_true rfl) c4 ?_
        refine jCall.mono k (fun o h55 k => ?_)
        obtain ⟨v55, e, k⟩ := k
        subst e
        show jWp (d + 1) mX10_element 58 [(2, jI a2), (3, jR v2)] [jR v55] h55 Q
        have c5 := k.1
        replace k := k.2
        refine wp_callV (ci := 5) (y' := mX7_count) (st := []) [] rfl rfl rfl fX7_count kX10_84 nX7_count dX10_element_58 (Nat.le_of_ble_eq_true rfl) c5 ?_
        refine jCall.mono k (fun o h58 k => ?_)
        obtain ⟨v58, e, k⟩ := k
        subst e
        show jWp (d + 1) mX10_element 61 [(2, jI a2), (3, jR v2)] [jI v58] h58 Q
        exact wp_iret dX10_element_61 rfl k
      · refine ⟨55, 62, by rw [q8]; rfl, rfl, ?_⟩
        replace k := k.2.2.2.1 q8
        refine wp_aload_n 1 dX10_element_62 rfl ?_
        have c6 := k.1
        replace k := k.2
        refine wp_callV (ci := 2) (y' := mX4_parts) (st := []) [] rfl rfl rfl fX4_parts kX10_150 nX4_parts dX10_element_63 (Nat.le_of_ble_eq_true rfl) c6 ?_
        refine jCall.mono k (fun o h63 k => ?_)
        obtain ⟨v63, e, k⟩ := k
        subst e
        show jWp (d + 1) mX10_element 66 [(2, jI a2), (3, jR v2)] [jI v63] h63 Q
        exact wp_iret dX10_element_66 rfl k
      · refine ⟨60, 67, by rw [q8]; rfl, rfl, ?_⟩
        replace k := k.2.2.2.2.1 q8
        refine wp_aload_n 1 dX10_element_67 rfl ?_
        have c7 := k.1
        replace k := k.2
        refine wp_callV (ci := 2) (y' := mX4_point) (st := []) [] rfl rfl rfl fX4_point kX10_153 nX4_point dX10_element_68 (Nat.le_of_ble_eq_true rfl) c7 ?_
        refine jCall.mono k (fun o h68 k => ?_)
        obtain ⟨v68, e, k⟩ := k
        subst e
        show jWp (d + 1) mX10_element 71 [(2, jI a2), (3, jR v2)] [jI v68] h68 Q
        exact wp_iret dX10_element_71 rfl k
      · refine ⟨65, 72, by rw [q8]; rfl, rfl, ?_⟩
        replace k := k.2.2.2.2.2.1 q8
        refine wp_aload_n 1 dX10_element_72 rfl ?_
        have c8 := k.1
        replace k := k.2
        refine wp_callV (ci := 2) (y' := mX4_isFixed) (st := []) [] rfl rfl rfl fX4_isFixed kX10_156 nX4_isFixed dX10_element_73 (Nat.le_of_ble_eq_true rfl) c8 ?_
        refine jCall.mono k (fun o h73 k => ?_)
        obtain ⟨v73, e, k⟩ := k
        subst e
        show jWp (d + 1) mX10_element 76 [(2, jI a2), (3, jR v2)] [jI v73] h73 Q
        refine wp_if_eq 83 dX10_element_76 rfl (fun q => ?_) (fun q => ?_)
        · replace k := k.1 q
          refine wp_iconst dX10_element_83 ⟨by decide, by decide⟩ ?_
          exact wp_iret dX10_element_84 rfl k
        · replace k := k.2 q
          refine wp_iconst dX10_element_79 ⟨by decide, by decide⟩ ?_
          refine wp_goto 84 dX10_element_80 rfl ?_
          exact wp_iret dX10_element_84 rfl k
  · subst e
    exact ⟨k, rfl⟩
theorem bX10_letter {d : Nat} {h : jH} {Q : jO → jH → Prop} {a0 : Nat} {a1 : Int} {a2 : Int} (k : jOK h → j32 a1 → j32 a2 → hK h a0 = 8 ∧ jCall d mX10_elementAt [jR a0, jI a1] h (fun o h2 => (∃ v2, o = .inl (some (jR v2)) ∧ hK h2 v2 = 3 ∧ jCall d mX4_value [jR v2] h2 (fun o h5 => ∃ v5, o = .inl (some (jR v5)) ∧ hK h5 v5 = 6 ∧ jCall d mX7_at [jR v5, jI a2] h5 (fun o h9 => ∃ v9, o = .inl (some (jI v9)) ∧ Q (.inl (some (jI v9))) h9))) ∨ (∃ E, o = .inr E ∧ Q (.inr E) h2))) : jCall (d + 1) mX10_letter [jR a0, jI a1, jI a2] h Q := by
  refine jCall_of plX10 (Nat.le_of_ble_eq_true rfl) ?_
  show jWp (d + 1) mX10_letter 0 [(0, jR a0), (1, jI a1), (2, jI a2)] [] h Q
  refine jw_ok (fun ok q => ?_)
  replace k := k ok (q _ (.tail _ (.head _))) (q _ (.tail _ (.tail _ (.head _))))
  refine wp_aload_n 0 dX10_letter_0 rfl ?_
  refine wp_iload_n 1 dX10_letter_1 rfl ?_
  have c1 := k.1
  replace k := k.2
  refine wp_callV (ci := 7) (y' := mX10_elementAt) (st := []) [jI a1] rfl rfl rfl fX10_elementAt kX10_134 nX10_elementAt dX10_letter_2 (Nat.le_of_ble_eq_true rfl) c1 ?_
  refine jCall.mono k (fun o h2 k => ?_)
  rcases k with ⟨v2, e, k⟩ | ⟨E, e, k⟩
  · subst e
    show jWp (d + 1) mX10_letter 5 [(0, jR a0), (1, jI a1), (2, jI a2)] [jR v2] h2 Q
    have c2 := k.1
    replace k := k.2
    refine wp_callV (ci := 2) (y' := mX4_value) (st := []) [] rfl rfl rfl fX4_value kX10_146 nX4_value dX10_letter_5 (Nat.le_of_ble_eq_true rfl) c2 ?_
    refine jCall.mono k (fun o h5 k => ?_)
    obtain ⟨v5, e, k⟩ := k
    subst e
    show jWp (d + 1) mX10_letter 8 [(0, jR a0), (1, jI a1), (2, jI a2)] [jR v5] h5 Q
    refine wp_iload_n 2 dX10_letter_8 rfl ?_
    have c3 := k.1
    replace k := k.2
    refine wp_callV (ci := 5) (y' := mX7_at) (st := []) [jI a2] rfl rfl rfl fX7_at kX10_170 nX7_at dX10_letter_9 (Nat.le_of_ble_eq_true rfl) c3 ?_
    refine jCall.mono k (fun o h9 k => ?_)
    obtain ⟨v9, e, k⟩ := k
    subst e
    show jWp (d + 1) mX10_letter 12 [(0, jR a0), (1, jI a1), (2, jI a2)] [jI v9] h9 Q
    exact wp_iret dX10_letter_12 rfl k
  · subst e
    exact ⟨k, rfl⟩
theorem bX10_part {d : Nat} {h : jH} {Q : jO → jH → Prop} {a0 : Nat} {a1 : Int} {a2 : Int} {a3 : Int} (k : jOK h → j32 a1 → j32 a2 → j32 a3 → hK h a0 = 8 ∧ jCall d mX10_elementAt [jR a0, jI a1] h (fun o h2 => (∃ v2, o = .inl (some (jR v2)) ∧ hK h2 v2 = 3 ∧ jCall d mX4_partBegin [jR v2, jI a2] h2 (fun o h10 => ∃ v10, o = .inl (some (jI v10)) ∧ ((v10 ≠ (-1) → ((a3 = 0 → hK h10 v2 = 3 ∧ jCall d mX4_partSort [jR v2, jI a2] h10 (fun o h51 => ∃ v51, o = .inl (some (jI v51)) ∧ Q (.inl (some (jI v51))) h51)) ∧ (a3 = 1 → hK h10 v2 = 3 ∧ jCall d mX4_partBegin [jR v2, jI a2] h10 (fun o h58 => ∃ v58, o = .inl (some (jI v58)) ∧ Q (.inl (some (jI v58))) h58)) ∧ (a3 = 2 → hK h10 v2 = 3 ∧ jCall d mX4_partBytes [jR v2, jI a2] h10 (fun o h65 => ∃ v65, o = .inl (some (jI v65)) ∧ Q (.inl (some (jI v65))) h65)) ∧ (a3 ≠ 0 → a3 ≠ 1 → a3 ≠ 2 → Q (.inl (some (jI (-1)))) h10))) ∧ (v10 = (-1) → Q (.inl (some (jI (-1)))) h10)))) ∨ (∃ E, o = .inr E ∧ Q (.inr E) h2))) : jCall (d + 1) mX10_part [jR a0, jI a1, jI a2, jI a3] h Q := by
  refine jCall_of plX10 (Nat.le_of_ble_eq_true rfl) ?_
  show jWp (d + 1) mX10_part 0 [(0, jR a0), (1, jI a1), (2, jI a2), (3, jI a3)] [] h Q
  refine jw_ok (fun ok q => ?_)
  replace k := k ok (q _ (.tail _ (.head _))) (q _ (.tail _ (.tail _ (.head _)))) (q _ (.tail _ (.tail _ (.tail _ (.head _)))))
  refine wp_aload_n 0 dX10_part_0 rfl ?_
  refine wp_iload_n 1 dX10_part_1 rfl ?_
  have c1 := k.1
  replace k := k.2
  refine wp_callV (ci := 7) (y' := mX10_elementAt) (st := []) [jI a1] rfl rfl rfl fX10_elementAt kX10_134 nX10_elementAt dX10_part_2 (Nat.le_of_ble_eq_true rfl) c1 ?_
  refine jCall.mono k (fun o h2 k => ?_)
  rcases k with ⟨v2, e, k⟩ | ⟨E, e, k⟩
  · subst e
    show jWp (d + 1) mX10_part 5 [(0, jR a0), (1, jI a1), (2, jI a2), (3, jI a3)] [jR v2] h2 Q
    refine wp_astore [3, 4, 0] (ls' := [(2, jI a2), (3, jI a3), (4, jR v2)]) dX10_part_5 (by decide) rfl ?_
    refine wp_aload 2 dX10_part_7 rfl ?_
    refine wp_iload_n 0 dX10_part_9 rfl ?_
    have c2 := k.1
    replace k := k.2
    refine wp_callV (ci := 2) (y' := mX4_partBegin) (st := []) [jI a2] rfl rfl rfl fX4_partBegin kX10_173 nX4_partBegin dX10_part_10 (Nat.le_of_ble_eq_true rfl) c2 ?_
    refine jCall.mono k (fun o h10 k => ?_)
    obtain ⟨v10, e, k⟩ := k
    subst e
    show jWp (d + 1) mX10_part 13 [(2, jI a2), (3, jI a3), (4, jR v2)] [jI v10] h10 Q
    refine wp_iconst dX10_part_13 ⟨by decide, by decide⟩ ?_
    refine wp_icmp_ne 19 dX10_part_14 rfl (fun q => ?_) (fun q => ?_)
    · replace k := k.1 q
      refine wp_iload_n 1 dX10_part_19 rfl ?_
      refine wp_table dX10_part_20 69 rfl (fun q => ?_) (fun q q9 => ?_)
      · replace k := k.2.2.2 (by omega) (by omega) (by omega)
        refine wp_iconst dX10_part_69 ⟨by decide, by decide⟩ ?_
        exact wp_iret dX10_part_70 rfl k
      · have q8 : a3 = 0 ∨ a3 = 1 ∨ a3 = 2 := by omega
        rcases q8 with q8 | q8 | q8
        · refine ⟨28, 48, by rw [q8]; rfl, rfl, ?_⟩
          replace k := k.1 q8
          refine wp_aload 2 dX10_part_48 rfl ?_
          refine wp_iload_n 0 dX10_part_50 rfl ?_
          have c3 := k.1
          replace k := k.2
          refine wp_callV (ci := 2) (y' := mX4_partSort) (st := []) [jI a2] rfl rfl rfl fX4_partSort kX10_176 nX4_partSort dX10_part_51 (Nat.le_of_ble_eq_true rfl) c3 ?_
          refine jCall.mono k (fun o h51 k => ?_)
          obtain ⟨v51, e, k⟩ := k
          subst e
          show jWp (d + 1) mX10_part 54 [(2, jI a2), (3, jI a3), (4, jR v2)] [jI v51] h51 Q
          exact wp_iret dX10_part_54 rfl k
        · refine ⟨35, 55, by rw [q8]; rfl, rfl, ?_⟩
          replace k := k.2.1 q8
          refine wp_aload 2 dX10_part_55 rfl ?_
          refine wp_iload_n 0 dX10_part_57 rfl ?_
          have c4 := k.1
          replace k := k.2
          refine wp_callV (ci := 2) (y' := mX4_partBegin) (st := []) [jI a2] rfl rfl rfl fX4_partBegin kX10_173 nX4_partBegin dX10_part_58 (Nat.le_of_ble_eq_true rfl) c4 ?_
          refine jCall.mono k (fun o h58 k => ?_)
          obtain ⟨v58, e, k⟩ := k
          subst e
          show jWp (d + 1) mX10_part 61 [(2, jI a2), (3, jI a3), (4, jR v2)] [jI v58] h58 Q
          exact wp_iret dX10_part_61 rfl k
        · refine ⟨42, 62, by rw [q8]; rfl, rfl, ?_⟩
          replace k := k.2.2.1 q8
          refine wp_aload 2 dX10_part_62 rfl ?_
          refine wp_iload_n 0 dX10_part_64 rfl ?_
          have c5 := k.1
          replace k := k.2
          refine wp_callV (ci := 2) (y' := mX4_partBytes) (st := []) [jI a2] rfl rfl rfl fX4_partBytes kX10_179 nX4_partBytes dX10_part_65 (Nat.le_of_ble_eq_true rfl) c5 ?_
          refine jCall.mono k (fun o h65 k => ?_)
          obtain ⟨v65, e, k⟩ := k
          subst e
          show jWp (d + 1) mX10_part 68 [(2, jI a2), (3, jI a3), (4, jR v2)] [jI v65] h65 Q
          exact wp_iret dX10_part_68 rfl k
    · replace k := k.2 q
      refine wp_iconst dX10_part_17 ⟨by decide, by decide⟩ ?_
      exact wp_iret dX10_part_18 rfl k
  · subst e
    exact ⟨k, rfl⟩
theorem bX10_find {d : Nat} {h : jH} {Q : jO → jH → Prop} {a0 : Nat} {a1 : Int} {a2 : Int} (k : jOK h → j32 a1 → j32 a2 → hK h a0 = 8 ∧ hK h (hR h 705 a0) = 5 ∧ jCall d mX6_placeOf [jR (hR h 705 a0), jI a1, jI a2] h (fun o h6 => ∃ v6, o = .inl (some (jI v6)) ∧ Q (.inl (some (jI v6))) h6)) : jCall (d + 1) mX10_find [jR a0, jI a1, jI a2] h Q := by
  refine jCall_of plX10 (Nat.le_of_ble_eq_true rfl) ?_
  show jWp (d + 1) mX10_find 0 [(0, jR a0), (1, jI a1), (2, jI a2)] [] h Q
  refine jw_ok (fun ok q => ?_)
  replace k := k ok (q _ (.tail _ (.head _))) (q _ (.tail _ (.tail _ (.head _))))
  refine wp_aload_n 0 dX10_find_0 rfl ?_
  have c1 := k.1
  replace k := k.2
  refine wp_getR (ci := 7) (j := 5) rfl (by decide) gX10_33 dX10_find_1 c1 rfl ?_
  refine wp_iload_n 1 dX10_find_4 rfl ?_
  refine wp_iload_n 2 dX10_find_5 rfl ?_
  have c2 := k.1
  replace k := k.2
  refine wp_callV (ci := 4) (y' := mX6_placeOf) (st := []) [jI a1, jI a2] rfl rfl rfl fX6_placeOf kX10_211 nX6_placeOf dX10_find_6 (Nat.le_of_ble_eq_true rfl) c2 ?_
  refine jCall.mono k (fun o h6 k => ?_)
  obtain ⟨v6, e, k⟩ := k
  subst e
  show jWp (d + 1) mX10_find 9 [(0, jR a0), (1, jI a1), (2, jI a2)] [jI v6] h6 Q
  exact wp_iret dX10_find_9 rfl k
theorem bX10_write {d : Nat} {h : jH} {Q : jO → jH → Prop} {a0 : Nat} {a1 : Int} (k : jOK h → j32 a1 → hK h a0 = 8 ∧ hK h (hR h 701 a0) = 6 ∧ jCall d mX7_clear [jR (hR h 701 a0)] h (fun o h4 => o = .inl none ∧ ((a1 = 0 → hK h4 a0 = 8 ∧ hK h4 (hR h4 705 a0) = 5 ∧ jCall d mX6_count [jR (hR h4 705 a0)] h4 (fun o h38 => ∃ v38, o = .inl (some (jI v38)) ∧ hK h38 (hR h4 705 a0) = 5 ∧ jCall d mX6_writeString [jR (hR h4 705 a0), jR (hR h4 701 a0), jI 0, jI v38] h38 (fun o h41 => o = .inl none ∧ hK h41 a0 = 8 ∧ hK h41 (hR h41 701 a0) = 6 ∧ jCall d mX7_count [jR (hR h41 701 a0)] h41 (fun o h48 => ∃ v48, o = .inl (some (jI v48)) ∧ Q (.inl (some (jI v48))) h48)))) ∧ (¬ (a1 = 0) → hK h4 a0 = 8 ∧ hK h4 (hR h4 705 a0) = 5 ∧ jCall d mX6_writeInBrackets [jR (hR h4 705 a0), jR (hR h4 701 a0)] h4 (fun o h19 => o = .inl none ∧ hK h19 a0 = 8 ∧ hK h19 (hR h19 701 a0) = 6 ∧ jCall d mX7_count [jR (hR h19 701 a0)] h19 (fun o h48_1 => ∃ v48_1, o = .inl (some (jI v48_1)) ∧ Q (.inl (some (jI v48_1))) h48_1)))))) : jCall (d + 1) mX10_write [jR a0, jI a1] h Q := by
  refine jCall_of plX10 (Nat.le_of_ble_eq_true rfl) ?_
  show jWp (d + 1) mX10_write 0 [(0, jR a0), (1, jI a1)] [] h Q
  refine jw_ok (fun ok q => ?_)
  replace k := k ok (q _ (.tail _ (.head _)))
  refine wp_aload_n 0 dX10_write_0 rfl ?_
  have c1 := k.1
  replace k := k.2
  refine wp_getR (ci := 7) (j := 1) rfl (by decide) gX10_18 dX10_write_1 c1 rfl ?_
  have c2 := k.1
  replace k := k.2
  refine wp_callV (ci := 5) (y' := mX7_clear) (st := []) [] rfl rfl rfl fX7_clear kX10_106 nX7_clear dX10_write_4 (Nat.le_of_ble_eq_true rfl) c2 ?_
  refine jCall.mono k (fun o h4 k => ?_)
  obtain ⟨e, k⟩ := k
  subst e
  show jWp (d + 1) mX10_write 7 [(0, jR a0), (1, jI a1)] [] h4 Q
  refine wp_iload_n 1 dX10_write_7 rfl ?_
  refine wp_if_eq 25 dX10_write_8 rfl (fun q => ?_) (fun q => ?_)
  · replace k := k.1 q
    refine wp_aload_n 0 dX10_write_25 rfl ?_
    have c3 := k.1
    replace k := k.2
    refine wp_getR (ci := 7) (j := 5) rfl (by decide) gX10_33 dX10_write_26 c3 rfl ?_
    refine wp_aload_n 0 dX10_write_29 rfl ?_
    refine wp_getR (ci := 7) (j := 1) rfl (by decide) gX10_18 dX10_write_30 c3 rfl ?_
    refine wp_iconst dX10_write_33 ⟨by decide, by decide⟩ ?_
    refine wp_aload_n 0 dX10_write_34 rfl ?_
    refine wp_getR (ci := 7) (j := 5) rfl (by decide) gX10_33 dX10_write_35 c3 rfl ?_
    have c4 := k.1
    replace k := k.2
    refine wp_callV (ci := 4) (y' := mX6_count) (st := [jI 0, jR (hR h4 701 a0), jR (hR h4 705 a0)]) [] rfl rfl rfl fX6_count kX10_127 nX6_count dX10_write_38 (Nat.le_of_ble_eq_true rfl) c4 ?_
    refine jCall.mono k (fun o h38 k => ?_)
    obtain ⟨v38, e, k⟩ := k
    subst e
    show jWp (d + 1) mX10_write 41 [(0, jR a0), (1, jI a1)] [jI v38, jI 0, jR (hR h4 701 a0), jR (hR h4 705 a0)] h38 Q
    have c5 := k.1
    replace k := k.2
    refine wp_callV (ci := 4) (y' := mX6_writeString) (st := []) [jR (hR h4 701 a0), jI 0, jI v38] rfl rfl rfl fX6_writeString kX10_217 nX6_writeString dX10_write_41 (Nat.le_of_ble_eq_true rfl) c5 ?_
    refine jCall.mono k (fun o h41 k => ?_)
    obtain ⟨e, k⟩ := k
    subst e
    show jWp (d + 1) mX10_write 44 [(0, jR a0), (1, jI a1)] [] h41 Q
    refine wp_aload_n 0 dX10_write_44 rfl ?_
    have c6 := k.1
    replace k := k.2
    refine wp_getR (ci := 7) (j := 1) rfl (by decide) gX10_18 dX10_write_45 c6 rfl ?_
    have c7 := k.1
    replace k := k.2
    refine wp_callV (ci := 5) (y' := mX7_count) (st := []) [] rfl rfl rfl fX7_count kX10_84 nX7_count dX10_write_48 (Nat.le_of_ble_eq_true rfl) c7 ?_
    refine jCall.mono k (fun o h48 k => ?_)
    obtain ⟨v48, e, k⟩ := k
    subst e
    show jWp (d + 1) mX10_write 51 [(0, jR a0), (1, jI a1)] [jI v48] h48 Q
    exact wp_iret dX10_write_51 rfl k
  · replace k := k.2 q
    refine wp_aload_n 0 dX10_write_11 rfl ?_
    have c8 := k.1
    replace k := k.2
    refine wp_getR (ci := 7) (j := 5) rfl (by decide) gX10_33 dX10_write_12 c8 rfl ?_
    refine wp_aload_n 0 dX10_write_15 rfl ?_
    refine wp_getR (ci := 7) (j := 1) rfl (by decide) gX10_18 dX10_write_16 c8 rfl ?_
    have c9 := k.1
    replace k := k.2
    refine wp_callV (ci := 4) (y' := mX6_writeInBrackets) (st := []) [jR (hR h4 701 a0)] rfl rfl rfl fX6_writeInBrackets kX10_214 nX6_writeInBrackets dX10_write_19 (Nat.le_of_ble_eq_true rfl) c9 ?_
    refine jCall.mono k (fun o h19 k => ?_)
    obtain ⟨e, k⟩ := k
    subst e
    show jWp (d + 1) mX10_write 22 [(0, jR a0), (1, jI a1)] [] h19 Q
    refine wp_goto 44 dX10_write_22 rfl ?_
    refine wp_aload_n 0 dX10_write_44 rfl ?_
    have c10 := k.1
    replace k := k.2
    refine wp_getR (ci := 7) (j := 1) rfl (by decide) gX10_18 dX10_write_45 c10 rfl ?_
    have c11 := k.1
    replace k := k.2
    refine wp_callV (ci := 5) (y' := mX7_count) (st := []) [] rfl rfl rfl fX7_count kX10_84 nX7_count dX10_write_48 (Nat.le_of_ble_eq_true rfl) c11 ?_
    refine jCall.mono k (fun o h48_1 k => ?_)
    obtain ⟨v48_1, e, k⟩ := k
    subst e
    show jWp (d + 1) mX10_write 51 [(0, jR a0), (1, jI a1)] [jI v48_1] h48_1 Q
    exact wp_iret dX10_write_51 rfl k
theorem bX10_out {d : Nat} {h : jH} {Q : jO → jH → Prop} {a0 : Nat} {a1 : Int} (k : jOK h → j32 a1 → hK h a0 = 8 ∧ hK h (hR h 701 a0) = 6 ∧ jCall d mX7_at [jR (hR h 701 a0), jI a1] h (fun o h5 => ∃ v5, o = .inl (some (jI v5)) ∧ Q (.inl (some (jI v5))) h5)) : jCall (d + 1) mX10_out [jR a0, jI a1] h Q := by
  refine jCall_of plX10 (Nat.le_of_ble_eq_true rfl) ?_
  show jWp (d + 1) mX10_out 0 [(0, jR a0), (1, jI a1)] [] h Q
  refine jw_ok (fun ok q => ?_)
  replace k := k ok (q _ (.tail _ (.head _)))
  refine wp_aload_n 0 dX10_out_0 rfl ?_
  have c1 := k.1
  replace k := k.2
  refine wp_getR (ci := 7) (j := 1) rfl (by decide) gX10_18 dX10_out_1 c1 rfl ?_
  refine wp_iload_n 1 dX10_out_4 rfl ?_
  have c2 := k.1
  replace k := k.2
  refine wp_callV (ci := 5) (y' := mX7_at) (st := []) [jI a1] rfl rfl rfl fX7_at kX10_170 nX7_at dX10_out_5 (Nat.le_of_ble_eq_true rfl) c2 ?_
  refine jCall.mono k (fun o h5 k => ?_)
  obtain ⟨v5, e, k⟩ := k
  subst e
  show jWp (d + 1) mX10_out 8 [(0, jR a0), (1, jI a1)] [jI v5] h5 Q
  exact wp_iret dX10_out_8 rfl k
theorem bX10_arrange {d : Nat} {h : jH} {Q : jO → jH → Prop} {a0 : Nat} (k : jOK h → hK h a0 = 8 ∧ hK h (hR h 705 a0) = 5 ∧ jCall d mX6_fixedAhead [jR (hR h 705 a0)] h (fun o h4 => ∃ v4, o = .inl (some (jI v4)) ∧ Q (.inl (some (jI v4))) h4)) : jCall (d + 1) mX10_arrange [jR a0] h Q := by
  refine jCall_of plX10 (Nat.le_of_ble_eq_true rfl) ?_
  show jWp (d + 1) mX10_arrange 0 [(0, jR a0)] [] h Q
  refine jw_ok (fun ok q => ?_)
  replace k := k ok 
  refine wp_aload_n 0 dX10_arrange_0 rfl ?_
  have c1 := k.1
  replace k := k.2
  refine wp_getR (ci := 7) (j := 5) rfl (by decide) gX10_33 dX10_arrange_1 c1 rfl ?_
  have c2 := k.1
  replace k := k.2
  refine wp_callV (ci := 4) (y' := mX6_fixedAhead) (st := []) [] rfl rfl rfl fX6_fixedAhead kX10_221 nX6_fixedAhead dX10_arrange_4 (Nat.le_of_ble_eq_true rfl) c2 ?_
  refine jCall.mono k (fun o h4 k => ?_)
  obtain ⟨v4, e, k⟩ := k
  subst e
  show jWp (d + 1) mX10_arrange 7 [(0, jR a0)] [jI v4] h4 Q
  exact wp_iret dX10_arrange_7 rfl k
theorem bX10_shelve {d : Nat} {h : jH} {Q : jO → jH → Prop} {a0 : Nat} {a1 : Int} (k : jOK h → j32 a1 → hK h a0 = 8 ∧ jCall d mX10_shelfAt [jR a0, jI a1] h (fun o h2 => (∃ v2, o = .inl (some (jR v2)) ∧ hK h2 a0 = 8 ∧ hK h2 v2 = 5 ∧ jCall d mX6_copyFrom [jR v2, jR (hR h2 705 a0)] h2 (fun o h9 => o = .inl none ∧ hK h9 a0 = 8 ∧ hK h9 (hR h9 705 a0) = 5 ∧ jCall d mX6_count [jR (hR h9 705 a0)] h9 (fun o h16 => ∃ v16, o = .inl (some (jI v16)) ∧ Q (.inl (some (jI v16))) h16))) ∨ (∃ E, o = .inr E ∧ Q (.inr E) h2))) : jCall (d + 1) mX10_shelve [jR a0, jI a1] h Q := by
  refine jCall_of plX10 (Nat.le_of_ble_eq_true rfl) ?_
  show jWp (d + 1) mX10_shelve 0 [(0, jR a0), (1, jI a1)] [] h Q
  refine jw_ok (fun ok q => ?_)
  replace k := k ok (q _ (.tail _ (.head _)))
  refine wp_aload_n 0 dX10_shelve_0 rfl ?_
  refine wp_iload_n 1 dX10_shelve_1 rfl ?_
  have c1 := k.1
  replace k := k.2
  refine wp_callV (ci := 7) (y' := mX10_shelfAt) (st := []) [jI a1] rfl rfl rfl fX10_shelfAt kX10_224 nX10_shelfAt dX10_shelve_2 (Nat.le_of_ble_eq_true rfl) c1 ?_
  refine jCall.mono k (fun o h2 k => ?_)
  rcases k with ⟨v2, e, k⟩ | ⟨E, e, k⟩
  · subst e
    show jWp (d + 1) mX10_shelve 5 [(0, jR a0), (1, jI a1)] [jR v2] h2 Q
    refine wp_aload_n 0 dX10_shelve_5 rfl ?_
    have c2 := k.1
    replace k := k.2
    refine wp_getR (ci := 7) (j := 5) rfl (by decide) gX10_33 dX10_shelve_6 c2 rfl ?_
    have c3 := k.1
    replace k := k.2
    refine wp_callV (ci := 4) (y' := mX6_copyFrom) (st := []) [jR (hR h2 705 a0)] rfl rfl rfl fX6_copyFrom kX10_124 nX6_copyFrom dX10_shelve_9 (Nat.le_of_ble_eq_true rfl) c3 ?_
    refine jCall.mono k (fun o h9 k => ?_)
    obtain ⟨e, k⟩ := k
    subst e
    show jWp (d + 1) mX10_shelve 12 [(0, jR a0), (1, jI a1)] [] h9 Q
    refine wp_aload_n 0 dX10_shelve_12 rfl ?_
    have c4 := k.1
    replace k := k.2
    refine wp_getR (ci := 7) (j := 5) rfl (by decide) gX10_33 dX10_shelve_13 c4 rfl ?_
    have c5 := k.1
    replace k := k.2
    refine wp_callV (ci := 4) (y' := mX6_count) (st := []) [] rfl rfl rfl fX6_count kX10_127 nX6_count dX10_shelve_16 (Nat.le_of_ble_eq_true rfl) c5 ?_
    refine jCall.mono k (fun o h16 k => ?_)
    obtain ⟨v16, e, k⟩ := k
    subst e
    show jWp (d + 1) mX10_shelve 19 [(0, jR a0), (1, jI a1)] [jI v16] h16 Q
    exact wp_iret dX10_shelve_19 rfl k
  · subst e
    exact ⟨k, rfl⟩
theorem bX10_fetch {d : Nat} {h : jH} {Q : jO → jH → Prop} {a0 : Nat} {a1 : Int} (k : jOK h → j32 a1 → hK h a0 = 8 ∧ jCall d mX10_shelfAt [jR a0, jI a1] h (fun o h6 => (∃ v6, o = .inl (some (jR v6)) ∧ hK h6 (hR h 705 a0) = 5 ∧ jCall d mX6_copyFrom [jR (hR h 705 a0), jR v6] h6 (fun o h9 => o = .inl none ∧ hK h9 a0 = 8 ∧ hK h9 (hR h9 705 a0) = 5 ∧ jCall d mX6_count [jR (hR h9 705 a0)] h9 (fun o h16 => ∃ v16, o = .inl (some (jI v16)) ∧ Q (.inl (some (jI v16))) h16))) ∨ (∃ E, o = .inr E ∧ Q (.inr E) h6))) : jCall (d + 1) mX10_fetch [jR a0, jI a1] h Q := by
  refine jCall_of plX10 (Nat.le_of_ble_eq_true rfl) ?_
  show jWp (d + 1) mX10_fetch 0 [(0, jR a0), (1, jI a1)] [] h Q
  refine jw_ok (fun ok q => ?_)
  replace k := k ok (q _ (.tail _ (.head _)))
  refine wp_aload_n 0 dX10_fetch_0 rfl ?_
  have c1 := k.1
  replace k := k.2
  refine wp_getR (ci := 7) (j := 5) rfl (by decide) gX10_33 dX10_fetch_1 c1 rfl ?_
  refine wp_aload_n 0 dX10_fetch_4 rfl ?_
  refine wp_iload_n 1 dX10_fetch_5 rfl ?_
  refine wp_callV (ci := 7) (y' := mX10_shelfAt) (st := [jR (hR h 705 a0)]) [jI a1] rfl rfl rfl fX10_shelfAt kX10_224 nX10_shelfAt dX10_fetch_6 (Nat.le_of_ble_eq_true rfl) c1 ?_
  refine jCall.mono k (fun o h6 k => ?_)
  rcases k with ⟨v6, e, k⟩ | ⟨E, e, k⟩
  · subst e
    show jWp (d + 1) mX10_fetch 9 [(0, jR a0), (1, jI a1)] [jR v6, jR (hR h 705 a0)] h6 Q
    have c2 := k.1
    replace k := k.2
    refine wp_callV (ci := 4) (y' := mX6_copyFrom) (st := []) [jR v6] rfl rfl rfl fX6_copyFrom kX10_124 nX6_copyFrom dX10_fetch_9 (Nat.le_of_ble_eq_true rfl) c2 ?_
    refine jCall.mono k (fun o h9 k => ?_)
    obtain ⟨e, k⟩ := k
    subst e
    show jWp (d + 1) mX10_fetch 12 [(0, jR a0), (1, jI a1)] [] h9 Q
    refine wp_aload_n 0 dX10_fetch_12 rfl ?_
    have c3 := k.1
    replace k := k.2
    refine wp_getR (ci := 7) (j := 5) rfl (by decide) gX10_33 dX10_fetch_13 c3 rfl ?_
    have c4 := k.1
    replace k := k.2
    refine wp_callV (ci := 4) (y' := mX6_count) (st := []) [] rfl rfl rfl fX6_count kX10_127 nX6_count dX10_fetch_16 (Nat.le_of_ble_eq_true rfl) c4 ?_
    refine jCall.mono k (fun o h16 k => ?_)
    obtain ⟨v16, e, k⟩ := k
    subst e
    show jWp (d + 1) mX10_fetch 19 [(0, jR a0), (1, jI a1)] [jI v16] h16 Q
    exact wp_iret dX10_fetch_19 rfl k
  · subst e
    exact ⟨k, rfl⟩
theorem bX10_same {d : Nat} {h : jH} {Q : jO → jH → Prop} {a0 : Nat} {a1 : Int} (k : jOK h → j32 a1 → hK h a0 = 8 ∧ jCall d mX10_shelfAt [jR a0, jI a1] h (fun o h6 => (∃ v6, o = .inl (some (jR v6)) ∧ hK h6 (hR h 705 a0) = 5 ∧ jCall d mX6_isSameAs [jR (hR h 705 a0), jR v6] h6 (fun o h9 => ∃ v9, o = .inl (some (jI v9)) ∧ (0 ≤ v9 ∧ v9 ≤ 1) ∧ Q (.inl (some (jI v9))) h9)) ∨ (∃ E, o = .inr E ∧ Q (.inr E) h6))) : jCall (d + 1) mX10_same [jR a0, jI a1] h Q := by
  refine jCall_of plX10 (Nat.le_of_ble_eq_true rfl) ?_
  show jWp (d + 1) mX10_same 0 [(0, jR a0), (1, jI a1)] [] h Q
  refine jw_ok (fun ok q => ?_)
  replace k := k ok (q _ (.tail _ (.head _)))
  refine wp_aload_n 0 dX10_same_0 rfl ?_
  have c1 := k.1
  replace k := k.2
  refine wp_getR (ci := 7) (j := 5) rfl (by decide) gX10_33 dX10_same_1 c1 rfl ?_
  refine wp_aload_n 0 dX10_same_4 rfl ?_
  refine wp_iload_n 1 dX10_same_5 rfl ?_
  refine wp_callV (ci := 7) (y' := mX10_shelfAt) (st := [jR (hR h 705 a0)]) [jI a1] rfl rfl rfl fX10_shelfAt kX10_224 nX10_shelfAt dX10_same_6 (Nat.le_of_ble_eq_true rfl) c1 ?_
  refine jCall.mono k (fun o h6 k => ?_)
  rcases k with ⟨v6, e, k⟩ | ⟨E, e, k⟩
  · subst e
    show jWp (d + 1) mX10_same 9 [(0, jR a0), (1, jI a1)] [jR v6, jR (hR h 705 a0)] h6 Q
    have c2 := k.1
    replace k := k.2
    refine wp_callV (ci := 4) (y' := mX6_isSameAs) (st := []) [jR v6] rfl rfl rfl fX6_isSameAs kX10_230 nX6_isSameAs dX10_same_9 (Nat.le_of_ble_eq_true rfl) c2 ?_
    refine jCall.mono k (fun o h9 k => ?_)
    obtain ⟨v9, e, k⟩ := k
    subst e
    show jWp (d + 1) mX10_same 12 [(0, jR a0), (1, jI a1)] [jI v9] h9 Q
    have c3 := k.1
    replace k := k.2
    exact wp_zreturn dX10_same_12 rfl c3.1 c3.2 k
  · subst e
    exact ⟨k, rfl⟩
theorem bX10_join {d : Nat} {h : jH} {Q : jO → jH → Prop} {a0 : Nat} {a1 : Int} (k : jOK h → j32 a1 → hK h a0 = 8 ∧ jCall d mX10_shelfAt [jR a0, jI a1] h (fun o h2 => (∃ v2, o = .inl (some (jR v2)) ∧ hK h2 a0 = 8 ∧ hK h2 (hR h2 706 a0) = 5 ∧ jCall d mX6_copyFrom [jR (hR h2 706 a0), jR (hR h2 705 a0)] h2 (fun o h14 => o = .inl none ∧ hK h14 a0 = 8 ∧ hK h14 (hR h14 706 a0) = 5 ∧ jCall d mX6_append [jR (hR h14 706 a0), jR v2] h14 (fun o h22 => ∃ v22, o = .inl (some (jI v22)) ∧ ((v22 = 0 → Q (.inl (some (jI (-1)))) h22) ∧ (¬ (v22 = 0) → hK h22 a0 = 8 ∧ hK h22 (hR h22 706 a0) = 5 ∧ jCall d mX6_goesTogether [jR (hR h22 706 a0)] h22 (fun o h32 => ∃ v32, o = .inl (some (jI v32)) ∧ ((v32 ≠ 0 → hK h32 a0 = 8 ∧ hK h32 (hR h32 705 a0) = 5 ∧ jCall d mX6_copyFrom [jR (hR h32 705 a0), jR (hR h32 706 a0)] h32 (fun o h48 => o = .inl none ∧ hK h48 a0 = 8 ∧ hK h48 (hR h48 705 a0) = 5 ∧ jCall d mX6_count [jR (hR h48 705 a0)] h48 (fun o h55 => ∃ v55, o = .inl (some (jI v55)) ∧ Q (.inl (some (jI v55))) h55))) ∧ (v32 = 0 → Q (.inl (some (jI (-1)))) h32)))))))) ∨ (∃ E, o = .inr E ∧ Q (.inr E) h2))) : jCall (d + 1) mX10_join [jR a0, jI a1] h Q := by
  refine jCall_of plX10 (Nat.le_of_ble_eq_true rfl) ?_
  show jWp (d + 1) mX10_join 0 [(0, jR a0), (1, jI a1)] [] h Q
  refine jw_ok (fun ok q => ?_)
  replace k := k ok (q _ (.tail _ (.head _)))
  refine wp_aload_n 0 dX10_join_0 rfl ?_
  refine wp_iload_n 1 dX10_join_1 rfl ?_
  have c1 := k.1
  replace k := k.2
  refine wp_callV (ci := 7) (y' := mX10_shelfAt) (st := []) [jI a1] rfl rfl rfl fX10_shelfAt kX10_224 nX10_shelfAt dX10_join_2 (Nat.le_of_ble_eq_true rfl) c1 ?_
  refine jCall.mono k (fun o h2 k => ?_)
  rcases k with ⟨v2, e, k⟩ | ⟨E, e, k⟩
  · subst e
    show jWp (d + 1) mX10_join 5 [(0, jR a0), (1, jI a1)] [jR v2] h2 Q
    refine wp_astore_n [1, 0] (ls' := [(0, jR a0), (2, jR v2)]) dX10_join_5 (by decide) rfl ?_
    refine wp_aload_n 0 dX10_join_6 rfl ?_
    have c2 := k.1
    replace k := k.2
    refine wp_getR (ci := 7) (j := 6) rfl (by decide) gX10_37 dX10_join_7 c2 rfl ?_
    refine wp_aload_n 0 dX10_join_10 rfl ?_
    refine wp_getR (ci := 7) (j := 5) rfl (by decide) gX10_33 dX10_join_11 c2 rfl ?_
    have c3 := k.1
    replace k := k.2
    refine wp_callV (ci := 4) (y' := mX6_copyFrom) (st := []) [jR (hR h2 705 a0)] rfl rfl rfl fX6_copyFrom kX10_124 nX6_copyFrom dX10_join_14 (Nat.le_of_ble_eq_true rfl) c3 ?_
    refine jCall.mono k (fun o h14 k => ?_)
    obtain ⟨e, k⟩ := k
    subst e
    show jWp (d + 1) mX10_join 17 [(0, jR a0), (2, jR v2)] [] h14 Q
    refine wp_aload_n 0 dX10_join_17 rfl ?_
    have c4 := k.1
    replace k := k.2
    refine wp_getR (ci := 7) (j := 6) rfl (by decide) gX10_37 dX10_join_18 c4 rfl ?_
    refine wp_aload_n 1 dX10_join_21 rfl ?_
    have c5 := k.1
    replace k := k.2
    refine wp_callV (ci := 4) (y' := mX6_append) (st := []) [jR v2] rfl rfl rfl fX6_append kX10_234 nX6_append dX10_join_22 (Nat.le_of_ble_eq_true rfl) c5 ?_
    refine jCall.mono k (fun o h22 k => ?_)
    obtain ⟨v22, e, k⟩ := k
    subst e
    show jWp (d + 1) mX10_join 25 [(0, jR a0), (2, jR v2)] [jI v22] h22 Q
    refine wp_if_eq 38 dX10_join_25 rfl (fun q => ?_) (fun q => ?_)
    · replace k := k.1 q
      refine wp_iconst dX10_join_38 ⟨by decide, by decide⟩ ?_
      exact wp_iret dX10_join_39 rfl k
    · replace k := k.2 q
      refine wp_aload_n 0 dX10_join_28 rfl ?_
      have c6 := k.1
      replace k := k.2
      refine wp_getR (ci := 7) (j := 6) rfl (by decide) gX10_37 dX10_join_29 c6 rfl ?_
      have c7 := k.1
      replace k := k.2
      refine wp_callV (ci := 4) (y' := mX6_goesTogether) (st := []) [] rfl rfl rfl fX6_goesTogether kX10_237 nX6_goesTogether dX10_join_32 (Nat.le_of_ble_eq_true rfl) c7 ?_
      refine jCall.mono k (fun o h32 k => ?_)
      obtain ⟨v32, e, k⟩ := k
      subst e
      show jWp (d + 1) mX10_join 35 [(0, jR a0), (2, jR v2)] [jI v32] h32 Q
      refine wp_if_ne 40 dX10_join_35 rfl (fun q => ?_) (fun q => ?_)
      · replace k := k.1 q
        refine wp_aload_n 0 dX10_join_40 rfl ?_
        have c8 := k.1
        replace k := k.2
        refine wp_getR (ci := 7) (j := 5) rfl (by decide) gX10_33 dX10_join_41 c8 rfl ?_
        refine wp_aload_n 0 dX10_join_44 rfl ?_
        refine wp_getR (ci := 7) (j := 6) rfl (by decide) gX10_37 dX10_join_45 c8 rfl ?_
        have c9 := k.1
        replace k := k.2
        refine wp_callV (ci := 4) (y' := mX6_copyFrom) (st := []) [jR (hR h32 706 a0)] rfl rfl rfl fX6_copyFrom kX10_124 nX6_copyFrom dX10_join_48 (Nat.le_of_ble_eq_true rfl) c9 ?_
        refine jCall.mono k (fun o h48 k => ?_)
        obtain ⟨e, k⟩ := k
        subst e
        show jWp (d + 1) mX10_join 51 [(0, jR a0), (2, jR v2)] [] h48 Q
        refine wp_aload_n 0 dX10_join_51 rfl ?_
        have c10 := k.1
        replace k := k.2
        refine wp_getR (ci := 7) (j := 5) rfl (by decide) gX10_33 dX10_join_52 c10 rfl ?_
        have c11 := k.1
        replace k := k.2
        refine wp_callV (ci := 4) (y' := mX6_count) (st := []) [] rfl rfl rfl fX6_count kX10_127 nX6_count dX10_join_55 (Nat.le_of_ble_eq_true rfl) c11 ?_
        refine jCall.mono k (fun o h55 k => ?_)
        obtain ⟨v55, e, k⟩ := k
        subst e
        show jWp (d + 1) mX10_join 58 [(0, jR a0), (2, jR v2)] [jI v55] h55 Q
        exact wp_iret dX10_join_58 rfl k
      · replace k := k.2 q
        refine wp_iconst dX10_join_38 ⟨by decide, by decide⟩ ?_
        exact wp_iret dX10_join_39 rfl k
  · subst e
    exact ⟨k, rfl⟩
theorem bX10_check {d : Nat} {h : jH} {Q : jO → jH → Prop} {a0 : Nat} (k : jOK h → hK h a0 = 8 ∧ hK h (hR h 700 a0) = 6 ∧ jCall d mX7_count [jR (hR h 700 a0)] h (fun o h4 => ∃ v4, o = .inl (some (jI v4)) ∧ ((v4 ≤ 0 → hK h4 a0 = 8 ∧ hK h4 (hR h4 700 a0) = 6 ∧ jCall d mX7_clear [jR (hR h4 700 a0)] h4 (fun o h58 => o = .inl none ∧ Q (.inl (some (jI (-1)))) h58)) ∧ (¬ (v4 ≤ 0) → ((30 < v4 → hK h4 a0 = 8 ∧ hK h4 (hR h4 700 a0) = 6 ∧ jCall d mX7_clear [jR (hR h4 700 a0)] h4 (fun o h58_1 => o = .inl none ∧ Q (.inl (some (jI (-1)))) h58_1)) ∧ (¬ (30 < v4) → hK h4 a0 = 8 ∧ hK h4 (hR h4 700 a0) = 6 ∧ jCall d mX7_areDigits [jR (hR h4 700 a0), jI 0, jI v4] h4 (fun o h24 => ∃ v24, o = .inl (some (jI v24)) ∧ ((v24 = 0 → hK h24 a0 = 8 ∧ hK h24 (hR h24 700 a0) = 6 ∧ jCall d mX7_clear [jR (hR h24 700 a0)] h24 (fun o h58_2 => o = .inl none ∧ Q (.inl (some (jI (-1)))) h58_2)) ∧ (¬ (v24 = 0) → hK h24 a0 = 8 ∧ hK h24 (hR h24 700 a0) = 6 ∧ jCall d mX7_checkDigit [jR (hR h24 700 a0), jI 0, jI v4] h24 (fun o h46 => ∃ v46, o = .inl (some (jI v46)) ∧ hK h46 a0 = 8 ∧ hK h46 (hR h46 700 a0) = 6 ∧ jCall d mX7_clear [jR (hR h46 700 a0)] h46 (fun o h58_3 => o = .inl none ∧ Q (.inl (some (jI v46))) h58_3))))))))))) : jCall (d + 1) mX10_check [jR a0] h Q := by
  refine jCall_of plX10 (Nat.le_of_ble_eq_true rfl) ?_
  show jWp (d + 1) mX10_check 0 [(0, jR a0)] [] h Q
  refine jw_ok (fun ok q => ?_)
  replace k := k ok 
  refine wp_aload_n 0 dX10_check_0 rfl ?_
  have c1 := k.1
  replace k := k.2
  refine wp_getR (ci := 7) (j := 0) rfl (by decide) gX10_14 dX10_check_1 c1 rfl ?_
  have c2 := k.1
  replace k := k.2
  refine wp_callV (ci := 5) (y' := mX7_count) (st := []) [] rfl rfl rfl fX7_count kX10_84 nX7_count dX10_check_4 (Nat.le_of_ble_eq_true rfl) c2 ?_
  refine jCall.mono k (fun o h4 k => ?_)
  obtain ⟨v4, e, k⟩ := k
  subst e
  show jWp (d + 1) mX10_check 7 [(0, jR a0)] [jI v4] h4 Q
  refine wp_istore_n [1, 0] (ls' := [(0, jR a0), (1, jI v4)]) dX10_check_7 (by decide) rfl ?_
  refine wp_iload_n 1 dX10_check_8 rfl ?_
  refine wp_if_le 34 dX10_check_9 rfl (fun q => ?_) (fun q => ?_)
  · replace k := k.1 q
    refine wp_iconst dX10_check_34 ⟨by decide, by decide⟩ ?_
    refine wp_istore_n [1, 2, 0] (ls' := [(0, jR a0), (1, jI v4), (2, jI 0)]) dX10_check_35 (by decide) rfl ?_
    refine wp_iload_n 2 dX10_check_36 rfl ?_
    refine wp_if_eq 52 dX10_check_37 rfl (fun q => ?_) (fun q => absurd q (by decide))
    refine wp_iconst dX10_check_52 ⟨by decide, by decide⟩ ?_
    refine wp_istore_n [1, 0] (ls' := [(0, jR a0), (3, jI (-1))]) dX10_check_53 (by decide) rfl ?_
    refine wp_aload_n 0 dX10_check_54 rfl ?_
    have c3 := k.1
    replace k := k.2
    refine wp_getR (ci := 7) (j := 0) rfl (by decide) gX10_14 dX10_check_55 c3 rfl ?_
    have c4 := k.1
    replace k := k.2
    refine wp_callV (ci := 5) (y' := mX7_clear) (st := []) [] rfl rfl rfl fX7_clear kX10_106 nX7_clear dX10_check_58 (Nat.le_of_ble_eq_true rfl) c4 ?_
    refine jCall.mono k (fun o h58 k => ?_)
    obtain ⟨e, k⟩ := k
    subst e
    show jWp (d + 1) mX10_check 61 [(0, jR a0), (3, jI (-1))] [] h58 Q
    refine wp_iload_n 1 dX10_check_61 rfl ?_
    exact wp_iret dX10_check_62 rfl k
  · replace k := k.2 q
    refine wp_iload_n 1 dX10_check_12 rfl ?_
    refine wp_bipush dX10_check_13 ⟨by decide, by decide⟩ ?_
    refine wp_icmp_gt 34 dX10_check_15 rfl (fun q => ?_) (fun q => ?_)
    · replace k := k.1 q
      refine wp_iconst dX10_check_34 ⟨by decide, by decide⟩ ?_
      refine wp_istore_n [1, 2, 0] (ls' := [(0, jR a0), (1, jI v4), (2, jI 0)]) dX10_check_35 (by decide) rfl ?_
      refine wp_iload_n 2 dX10_check_36 rfl ?_
      refine wp_if_eq 52 dX10_check_37 rfl (fun q => ?_) (fun q => absurd q (by decide))
      refine wp_iconst dX10_check_52 ⟨by decide, by decide⟩ ?_
      refine wp_istore_n [1, 0] (ls' := [(0, jR a0), (3, jI (-1))]) dX10_check_53 (by decide) rfl ?_
      refine wp_aload_n 0 dX10_check_54 rfl ?_
      have c5 := k.1
      replace k := k.2
      refine wp_getR (ci := 7) (j := 0) rfl (by decide) gX10_14 dX10_check_55 c5 rfl ?_
      have c6 := k.1
      replace k := k.2
      refine wp_callV (ci := 5) (y' := mX7_clear) (st := []) [] rfl rfl rfl fX7_clear kX10_106 nX7_clear dX10_check_58 (Nat.le_of_ble_eq_true rfl) c6 ?_
      refine jCall.mono k (fun o h58_1 k => ?_)
      obtain ⟨e, k⟩ := k
      subst e
      show jWp (d + 1) mX10_check 61 [(0, jR a0), (3, jI (-1))] [] h58_1 Q
      refine wp_iload_n 1 dX10_check_61 rfl ?_
      exact wp_iret dX10_check_62 rfl k
    · replace k := k.2 q
      refine wp_aload_n 0 dX10_check_18 rfl ?_
      have c7 := k.1
      replace k := k.2
      refine wp_getR (ci := 7) (j := 0) rfl (by decide) gX10_14 dX10_check_19 c7 rfl ?_
      refine wp_iconst dX10_check_22 ⟨by decide, by decide⟩ ?_
      refine wp_iload_n 1 dX10_check_23 rfl ?_
      have c8 := k.1
      replace k := k.2
      refine wp_callV (ci := 5) (y' := mX7_areDigits) (st := []) [jI 0, jI v4] rfl rfl rfl fX7_areDigits kX10_240 nX7_areDigits dX10_check_24 (Nat.le_of_ble_eq_true rfl) c8 ?_
      refine jCall.mono k (fun o h24 k => ?_)
      obtain ⟨v24, e, k⟩ := k
      subst e
      show jWp (d + 1) mX10_check 27 [(0, jR a0), (1, jI v4)] [jI v24] h24 Q
      refine wp_if_eq 34 dX10_check_27 rfl (fun q => ?_) (fun q => ?_)
      · replace k := k.1 q
        refine wp_iconst dX10_check_34 ⟨by decide, by decide⟩ ?_
        refine wp_istore_n [1, 2, 0] (ls' := [(0, jR a0), (1, jI v4), (2, jI 0)]) dX10_check_35 (by decide) rfl ?_
        refine wp_iload_n 2 dX10_check_36 rfl ?_
        refine wp_if_eq 52 dX10_check_37 rfl (fun q => ?_) (fun q => absurd q (by decide))
        refine wp_iconst dX10_check_52 ⟨by decide, by decide⟩ ?_
        refine wp_istore_n [1, 0] (ls' := [(0, jR a0), (3, jI (-1))]) dX10_check_53 (by decide) rfl ?_
        refine wp_aload_n 0 dX10_check_54 rfl ?_
        have c9 := k.1
        replace k := k.2
        refine wp_getR (ci := 7) (j := 0) rfl (by decide) gX10_14 dX10_check_55 c9 rfl ?_
        have c10 := k.1
        replace k := k.2
        refine wp_callV (ci := 5) (y' := mX7_clear) (st := []) [] rfl rfl rfl fX7_clear kX10_106 nX7_clear dX10_check_58 (Nat.le_of_ble_eq_true rfl) c10 ?_
        refine jCall.mono k (fun o h58_2 k => ?_)
        obtain ⟨e, k⟩ := k
        subst e
        show jWp (d + 1) mX10_check 61 [(0, jR a0), (3, jI (-1))] [] h58_2 Q
        refine wp_iload_n 1 dX10_check_61 rfl ?_
        exact wp_iret dX10_check_62 rfl k
      · replace k := k.2 q
        refine wp_iconst dX10_check_30 ⟨by decide, by decide⟩ ?_
        refine wp_goto 35 dX10_check_31 rfl ?_
        refine wp_istore_n [1, 2, 0] (ls' := [(0, jR a0), (1, jI v4), (2, jI 1)]) dX10_check_35 (by decide) rfl ?_
        refine wp_iload_n 2 dX10_check_36 rfl ?_
        refine wp_if_eq 52 dX10_check_37 rfl (fun q => absurd q (by decide)) (fun q => ?_)
        refine wp_aload_n 0 dX10_check_40 rfl ?_
        have c11 := k.1
        replace k := k.2
        refine wp_getR (ci := 7) (j := 0) rfl (by decide) gX10_14 dX10_check_41 c11 rfl ?_
        refine wp_iconst dX10_check_44 ⟨by decide, by decide⟩ ?_
        refine wp_iload_n 1 dX10_check_45 rfl ?_
        have c12 := k.1
        replace k := k.2
        refine wp_callV (ci := 5) (y' := mX7_checkDigit) (st := []) [jI 0, jI v4] rfl rfl rfl fX7_checkDigit kX10_244 nX7_checkDigit dX10_check_46 (Nat.le_of_ble_eq_true rfl) c12 ?_
        refine jCall.mono k (fun o h46 k => ?_)
        obtain ⟨v46, e, k⟩ := k
        subst e
        show jWp (d + 1) mX10_check 49 [(0, jR a0), (1, jI v4), (2, jI 1)] [jI v46] h46 Q
        refine wp_goto 53 dX10_check_49 rfl ?_
        refine wp_istore_n [1, 0] (ls' := [(0, jR a0), (3, jI v46)]) dX10_check_53 (by decide) rfl ?_
        refine wp_aload_n 0 dX10_check_54 rfl ?_
        have c13 := k.1
        replace k := k.2
        refine wp_getR (ci := 7) (j := 0) rfl (by decide) gX10_14 dX10_check_55 c13 rfl ?_
        have c14 := k.1
        replace k := k.2
        refine wp_callV (ci := 5) (y' := mX7_clear) (st := []) [] rfl rfl rfl fX7_clear kX10_106 nX7_clear dX10_check_58 (Nat.le_of_ble_eq_true rfl) c14 ?_
        refine jCall.mono k (fun o h58_3 k => ?_)
        obtain ⟨e, k⟩ := k
        subst e
        show jWp (d + 1) mX10_check 61 [(0, jR a0), (3, jI v46)] [] h58_3 Q
        refine wp_iload_n 1 dX10_check_61 rfl ?_
        exact wp_iret dX10_check_62 rfl k
theorem bX10_symbol {d : Nat} {h : jH} {Q : jO → jH → Prop} {a0 : Nat} {a1 : Int} (k : jOK h → j32 a1 → hK h a0 = 8 ∧ jCall d mX10_elementAt [jR a0, jI a1] h (fun o h2 => (∃ v2, o = .inl (some (jR v2)) ∧ hK h2 a0 = 8 ∧ hK h2 (hR h2 705 a0) = 5 ∧ jCall d mX6_symbolEnd [jR (hR h2 705 a0), jI a1] h2 (fun o h11 => ∃ v11, o = .inl (some (jI v11)) ∧ ((v11 ≠ a1 → hK h11 a0 = 8 ∧ hK h11 (hR h11 703 a0) = 6 ∧ jCall d mX7_clear [jR (hR h11 703 a0)] h11 (fun o h26 => o = .inl none ∧ hK h26 a0 = 8 ∧ hK h26 (hR h26 705 a0) = 5 ∧ jCall d mX6_writeString [jR (hR h26 705 a0), jR (hR h26 703 a0), jI a1, jI v11] h26 (fun o h39 => o = .inl none ∧ hK h39 a0 = 8 ∧ hK h39 (hR h39 709 a0) = 4 ∧ jCall d mX5_encode [jR (hR h39 709 a0), jR (hR h39 703 a0), jR (hR h39 704 a0)] h39 (fun o h54 => o = .inl none ∧ j32 (v11 - a1) ∧ Q (.inl (some (jI (v11 - a1)))) h54)))) ∧ (v11 = a1 → Q (.inl (some (jI (-1)))) h11)))) ∨ (∃ E, o = .inr E ∧ Q (.inr E) h2))) : jCall (d + 1) mX10_symbol [jR a0, jI a1] h Q := by
  refine jCall_of plX10 (Nat.le_of_ble_eq_true rfl) ?_
  show jWp (d + 1) mX10_symbol 0 [(0, jR a0), (1, jI a1)] [] h Q
  refine jw_ok (fun ok q => ?_)
  replace k := k ok (q _ (.tail _ (.head _)))
  refine wp_aload_n 0 dX10_symbol_0 rfl ?_
  refine wp_iload_n 1 dX10_symbol_1 rfl ?_
  have c1 := k.1
  replace k := k.2
  refine wp_callV (ci := 7) (y' := mX10_elementAt) (st := []) [jI a1] rfl rfl rfl fX10_elementAt kX10_134 nX10_elementAt dX10_symbol_2 (Nat.le_of_ble_eq_true rfl) c1 ?_
  refine jCall.mono k (fun o h2 k => ?_)
  rcases k with ⟨v2, e, k⟩ | ⟨E, e, k⟩
  · subst e
    show jWp (d + 1) mX10_symbol 5 [(0, jR a0), (1, jI a1)] [jR v2] h2 Q
    refine wp_pop dX10_symbol_5 rfl ?_
    refine wp_aload_n 0 dX10_symbol_6 rfl ?_
    have c2 := k.1
    replace k := k.2
    refine wp_getR (ci := 7) (j := 5) rfl (by decide) gX10_33 dX10_symbol_7 c2 rfl ?_
    refine wp_iload_n 1 dX10_symbol_10 rfl ?_
    have c3 := k.1
    replace k := k.2
    refine wp_callV (ci := 4) (y' := mX6_symbolEnd) (st := []) [jI a1] rfl rfl rfl fX6_symbolEnd kX10_247 nX6_symbolEnd dX10_symbol_11 (Nat.le_of_ble_eq_true rfl) c3 ?_
    refine jCall.mono k (fun o h11 k => ?_)
    obtain ⟨v11, e, k⟩ := k
    subst e
    show jWp (d + 1) mX10_symbol 14 [(0, jR a0), (1, jI a1)] [jI v11] h11 Q
    refine wp_istore_n [1, 2, 0] (ls' := [(0, jR a0), (1, jI a1), (2, jI v11)]) dX10_symbol_14 (by decide) rfl ?_
    refine wp_iload_n 2 dX10_symbol_15 rfl ?_
    refine wp_iload_n 1 dX10_symbol_16 rfl ?_
    refine wp_icmp_ne 22 dX10_symbol_17 rfl (fun q => ?_) (fun q => ?_)
    · replace k := k.1 q
      refine wp_aload_n 0 dX10_symbol_22 rfl ?_
      have c4 := k.1
      replace k := k.2
      refine wp_getR (ci := 7) (j := 3) rfl (by decide) gX10_24 dX10_symbol_23 c4 rfl ?_
      have c5 := k.1
      replace k := k.2
      refine wp_callV (ci := 5) (y' := mX7_clear) (st := []) [] rfl rfl rfl fX7_clear kX10_106 nX7_clear dX10_symbol_26 (Nat.le_of_ble_eq_true rfl) c5 ?_
      refine jCall.mono k (fun o h26 k => ?_)
      obtain ⟨e, k⟩ := k
      subst e
      show jWp (d + 1) mX10_symbol 29 [(0, jR a0), (1, jI a1), (2, jI v11)] [] h26 Q
      refine wp_aload_n 0 dX10_symbol_29 rfl ?_
      have c6 := k.1
      replace k := k.2
      refine wp_getR (ci := 7) (j := 5) rfl (by decide) gX10_33 dX10_symbol_30 c6 rfl ?_
      refine wp_aload_n 0 dX10_symbol_33 rfl ?_
      refine wp_getR (ci := 7) (j := 3) rfl (by decide) gX10_24 dX10_symbol_34 c6 rfl ?_
      refine wp_iload_n 1 dX10_symbol_37 rfl ?_
      refine wp_iload_n 2 dX10_symbol_38 rfl ?_
      have c7 := k.1
      replace k := k.2
      refine wp_callV (ci := 4) (y' := mX6_writeString) (st := []) [jR (hR h26 703 a0), jI a1, jI v11] rfl rfl rfl fX6_writeString kX10_217 nX6_writeString dX10_symbol_39 (Nat.le_of_ble_eq_true rfl) c7 ?_
      refine jCall.mono k (fun o h39 k => ?_)
      obtain ⟨e, k⟩ := k
      subst e
      show jWp (d + 1) mX10_symbol 42 [(0, jR a0), (1, jI a1), (2, jI v11)] [] h39 Q
      refine wp_aload_n 0 dX10_symbol_42 rfl ?_
      have c8 := k.1
      replace k := k.2
      refine wp_getR (ci := 7) (j := 9) rfl (by decide) gX10_54 dX10_symbol_43 c8 rfl ?_
      refine wp_aload_n 0 dX10_symbol_46 rfl ?_
      refine wp_getR (ci := 7) (j := 3) rfl (by decide) gX10_24 dX10_symbol_47 c8 rfl ?_
      refine wp_aload_n 0 dX10_symbol_50 rfl ?_
      refine wp_getR (ci := 7) (j := 4) rfl (by decide) gX10_27 dX10_symbol_51 c8 rfl ?_
      have c9 := k.1
      replace k := k.2
      refine wp_callV (ci := 3) (y' := mX5_encode) (st := []) [jR (hR h39 703 a0), jR (hR h39 704 a0)] rfl rfl rfl fX5_encode kX10_250 nX5_encode dX10_symbol_54 (Nat.le_of_ble_eq_true rfl) c9 ?_
      refine jCall.mono k (fun o h54 k => ?_)
      obtain ⟨e, k⟩ := k
      subst e
      show jWp (d + 1) mX10_symbol 57 [(0, jR a0), (1, jI a1), (2, jI v11)] [] h54 Q
      refine wp_iload_n 2 dX10_symbol_57 rfl ?_
      refine wp_iload_n 1 dX10_symbol_58 rfl ?_
      have c10 := k.1
      replace k := k.2
      refine wp_isub dX10_symbol_59 c10 ?_
      exact wp_iret dX10_symbol_60 rfl k
    · replace k := k.2 q
      refine wp_iconst dX10_symbol_20 ⟨by decide, by decide⟩ ?_
      exact wp_iret dX10_symbol_21 rfl k
  · subst e
    exact ⟨k, rfl⟩
theorem bX10_character {d : Nat} {h : jH} {Q : jO → jH → Prop} {a0 : Nat} {a1 : Int} (k : jOK h → j32 a1 → hK h a0 = 8 ∧ hK h (hR h 704 a0) = 6 ∧ jCall d mX7_at [jR (hR h 704 a0), jI a1] h (fun o h5 => ∃ v5, o = .inl (some (jI v5)) ∧ Q (.inl (some (jI v5))) h5)) : jCall (d + 1) mX10_character [jR a0, jI a1] h Q := by
  refine jCall_of plX10 (Nat.le_of_ble_eq_true rfl) ?_
  show jWp (d + 1) mX10_character 0 [(0, jR a0), (1, jI a1)] [] h Q
  refine jw_ok (fun ok q => ?_)
  replace k := k ok (q _ (.tail _ (.head _)))
  refine wp_aload_n 0 dX10_character_0 rfl ?_
  have c1 := k.1
  replace k := k.2
  refine wp_getR (ci := 7) (j := 4) rfl (by decide) gX10_27 dX10_character_1 c1 rfl ?_
  refine wp_iload_n 1 dX10_character_4 rfl ?_
  have c2 := k.1
  replace k := k.2
  refine wp_callV (ci := 5) (y' := mX7_at) (st := []) [jI a1] rfl rfl rfl fX7_at kX10_170 nX7_at dX10_character_5 (Nat.le_of_ble_eq_true rfl) c2 ?_
  refine jCall.mono k (fun o h5 k => ?_)
  obtain ⟨v5, e, k⟩ := k
  subst e
  show jWp (d + 1) mX10_character 8 [(0, jR a0), (1, jI a1)] [jI v5] h5 Q
  exact wp_iret dX10_character_8 rfl k
theorem bX10_putSpaces {d : Nat} {h : jH} {Q : jO → jH → Prop} {a0 : Nat} (k : jOK h → jWp (d + 1) mX10_putSpaces 2 [(0, jR a0), (1, jI 0)] [] h Q) : jCall (d + 1) mX10_putSpaces [jR a0] h Q := by
  refine jCall_of plX10 (Nat.le_of_ble_eq_true rfl) ?_
  show jWp (d + 1) mX10_putSpaces 0 [(0, jR a0)] [] h Q
  refine jw_ok (fun ok q => ?_)
  replace k := k ok 
  refine wp_iconst dX10_putSpaces_0 ⟨by decide, by decide⟩ ?_
  refine wp_istore_n [1, 0] (ls' := [(0, jR a0), (1, jI 0)]) dX10_putSpaces_1 (by decide) rfl ?_
  exact k
theorem bX10_putSpaces_2 {d : Nat} {h : jH} {Q : jO → jH → Prop} {a0 : Nat} {a1 : Int} (k : jOK h → j32 a1 → ((10 ≤ a1 → Q (.inl none) h) ∧ (¬ (10 ≤ a1) → hK h a0 = 8 ∧ hK h (hR h 702 a0) = 6 ∧ jCall d mX7_put [jR (hR h 702 a0), jI 0] h (fun o h13 => o = .inl none ∧ j32 (a1 + 1) ∧ jWp (d + 1) mX10_putSpaces 2 [(0, jR a0), (1, jI (a1 + 1))] [] h13 Q)))) : jWp (d + 1) mX10_putSpaces 2 [(0, jR a0), (1, jI a1)] [] h Q := by
  refine jw_ok (fun ok q => ?_)
  replace k := k ok (q _ (.tail _ (.head _)))
  refine wp_iload_n 1 dX10_putSpaces_2 rfl ?_
  refine wp_bipush dX10_putSpaces_3 ⟨by decide, by decide⟩ ?_
  refine wp_icmp_ge 22 dX10_putSpaces_5 rfl (fun q => ?_) (fun q => ?_)
  · replace k := k.1 q
    exact wp_return dX10_putSpaces_22 rfl k
  · replace k := k.2 q
    refine wp_aload_n 0 dX10_putSpaces_8 rfl ?_
    have c1 := k.1
    replace k := k.2
    refine wp_getR (ci := 7) (j := 2) rfl (by decide) gX10_21 dX10_putSpaces_9 c1 rfl ?_
    refine wp_iconst dX10_putSpaces_12 ⟨by decide, by decide⟩ ?_
    have c2 := k.1
    replace k := k.2
    refine wp_callV (ci := 5) (y' := mX7_put) (st := []) [jI 0] rfl rfl rfl fX7_put kX10_91 nX7_put dX10_putSpaces_13 (Nat.le_of_ble_eq_true rfl) c2 ?_
    refine jCall.mono k (fun o h13 k => ?_)
    obtain ⟨e, k⟩ := k
    subst e
    show jWp (d + 1) mX10_putSpaces 16 [(0, jR a0), (1, jI a1)] [] h13 Q
    have c3 := k.1
    replace k := k.2
    refine wp_iinc 1 [1, 0] (ls' := [(0, jR a0), (1, jI (a1 + 1))]) dX10_putSpaces_16 rfl c3 ⟨by decide, by decide⟩ (by decide) rfl ?_
    refine wp_goto 2 dX10_putSpaces_19 rfl ?_
    exact k
theorem bX10_bars {d : Nat} {h : jH} {Q : jO → jH → Prop} {a0 : Nat} {a1 : Int} {a2 : Int} {a3 : Int} {a4 : Int} {a5 : Int} (k : jOK h → j32 a1 → j32 a2 → j32 a3 → j32 a4 → j32 a5 → hK h a0 = 8 ∧ hK h (hR h 702 a0) = 6 ∧ jCall d mX7_count [jR (hR h 702 a0)] h (fun o h4 => ∃ v4, o = .inl (some (jI v4)) ∧ j32 (v4 + 160) ∧ (((v4 + 160) ≤ 2000 → hK h4 a0 = 8 ∧ jCall d mX10_putModules [jR a0, jI a1] h4 (fun o h21 => o = .inl none ∧ hK h21 a0 = 8 ∧ jCall d mX10_putModules [jR a0, jI a2] h21 (fun o h26 => o = .inl none ∧ hK h26 a0 = 8 ∧ jCall d mX10_putModules [jR a0, jI a3] h26 (fun o h31 => o = .inl none ∧ hK h31 a0 = 8 ∧ jCall d mX10_putModules [jR a0, jI a4] h31 (fun o h37 => o = .inl none ∧ hK h37 a0 = 8 ∧ jCall d mX10_putModules [jR a0, jI a5] h37 (fun o h43 => o = .inl none ∧ hK h43 a0 = 8 ∧ hK h43 (hR h43 702 a0) = 6 ∧ jCall d mX7_count [jR (hR h43 702 a0)] h43 (fun o h50 => ∃ v50, o = .inl (some (jI v50)) ∧ Q (.inl (some (jI v50))) h50))))))) ∧ (¬ ((v4 + 160) ≤ 2000) → Q (.inl (some (jI (-1)))) h4)))) : jCall (d + 1) mX10_bars [jR a0, jI a1, jI a2, jI a3, jI a4, jI a5] h Q := by
  refine jCall_of plX10 (Nat.le_of_ble_eq_true rfl) ?_
  show jWp (d + 1) mX10_bars 0 [(0, jR a0), (1, jI a1), (2, jI a2), (3, jI a3), (4, jI a4), (5, jI a5)] [] h Q
  refine jw_ok (fun ok q => ?_)
  replace k := k ok (q _ (.tail _ (.head _))) (q _ (.tail _ (.tail _ (.head _)))) (q _ (.tail _ (.tail _ (.tail _ (.head _))))) (q _ (.tail _ (.tail _ (.tail _ (.tail _ (.head _)))))) (q _ (.tail _ (.tail _ (.tail _ (.tail _ (.tail _ (.head _)))))))
  refine wp_aload_n 0 dX10_bars_0 rfl ?_
  have c1 := k.1
  replace k := k.2
  refine wp_getR (ci := 7) (j := 2) rfl (by decide) gX10_21 dX10_bars_1 c1 rfl ?_
  have c2 := k.1
  replace k := k.2
  refine wp_callV (ci := 5) (y' := mX7_count) (st := []) [] rfl rfl rfl fX7_count kX10_84 nX7_count dX10_bars_4 (Nat.le_of_ble_eq_true rfl) c2 ?_
  refine jCall.mono k (fun o h4 k => ?_)
  obtain ⟨v4, e, k⟩ := k
  subst e
  show jWp (d + 1) mX10_bars 7 [(0, jR a0), (1, jI a1), (2, jI a2), (3, jI a3), (4, jI a4), (5, jI a5)] [jI v4] h4 Q
  refine wp_sipush dX10_bars_7 ⟨by decide, by decide⟩ ?_
  have c3 := k.1
  replace k := k.2
  refine wp_iadd dX10_bars_10 c3 ?_
  refine wp_sipush dX10_bars_11 ⟨by decide, by decide⟩ ?_
  refine wp_icmp_le 19 dX10_bars_14 rfl (fun q => ?_) (fun q => ?_)
  · replace k := k.1 q
    refine wp_aload_n 0 dX10_bars_19 rfl ?_
    refine wp_iload_n 1 dX10_bars_20 rfl ?_
    have c4 := k.1
    replace k := k.2
    refine wp_callV (ci := 7) (y' := mX10_putModules) (st := []) [jI a1] rfl rfl rfl fX10_putModules kX10_265 nX10_putModules dX10_bars_21 (Nat.le_of_ble_eq_true rfl) c4 ?_
    refine jCall.mono k (fun o h21 k => ?_)
    obtain ⟨e, k⟩ := k
    subst e
    show jWp (d + 1) mX10_bars 24 [(0, jR a0), (1, jI a1), (2, jI a2), (3, jI a3), (4, jI a4), (5, jI a5)] [] h21 Q
    refine wp_aload_n 0 dX10_bars_24 rfl ?_
    refine wp_iload_n 2 dX10_bars_25 rfl ?_
    have c5 := k.1
    replace k := k.2
    refine wp_callV (ci := 7) (y' := mX10_putModules) (st := []) [jI a2] rfl rfl rfl fX10_putModules kX10_265 nX10_putModules dX10_bars_26 (Nat.le_of_ble_eq_true rfl) c5 ?_
    refine jCall.mono k (fun o h26 k => ?_)
    obtain ⟨e, k⟩ := k
    subst e
    show jWp (d + 1) mX10_bars 29 [(0, jR a0), (1, jI a1), (2, jI a2), (3, jI a3), (4, jI a4), (5, jI a5)] [] h26 Q
    refine wp_aload_n 0 dX10_bars_29 rfl ?_
    refine wp_iload_n 3 dX10_bars_30 rfl ?_
    have c6 := k.1
    replace k := k.2
    refine wp_callV (ci := 7) (y' := mX10_putModules) (st := []) [jI a3] rfl rfl rfl fX10_putModules kX10_265 nX10_putModules dX10_bars_31 (Nat.le_of_ble_eq_true rfl) c6 ?_
    refine jCall.mono k (fun o h31 k => ?_)
    obtain ⟨e, k⟩ := k
    subst e
    show jWp (d + 1) mX10_bars 34 [(0, jR a0), (1, jI a1), (2, jI a2), (3, jI a3), (4, jI a4), (5, jI a5)] [] h31 Q
    refine wp_aload_n 0 dX10_bars_34 rfl ?_
    refine wp_iload 4 dX10_bars_35 rfl ?_
    have c7 := k.1
    replace k := k.2
    refine wp_callV (ci := 7) (y' := mX10_putModules) (st := []) [jI a4] rfl rfl rfl fX10_putModules kX10_265 nX10_putModules dX10_bars_37 (Nat.le_of_ble_eq_true rfl) c7 ?_
    refine jCall.mono k (fun o h37 k => ?_)
    obtain ⟨e, k⟩ := k
    subst e
    show jWp (d + 1) mX10_bars 40 [(0, jR a0), (1, jI a1), (2, jI a2), (3, jI a3), (4, jI a4), (5, jI a5)] [] h37 Q
    refine wp_aload_n 0 dX10_bars_40 rfl ?_
    refine wp_iload 5 dX10_bars_41 rfl ?_
    have c8 := k.1
    replace k := k.2
    refine wp_callV (ci := 7) (y' := mX10_putModules) (st := []) [jI a5] rfl rfl rfl fX10_putModules kX10_265 nX10_putModules dX10_bars_43 (Nat.le_of_ble_eq_true rfl) c8 ?_
    refine jCall.mono k (fun o h43 k => ?_)
    obtain ⟨e, k⟩ := k
    subst e
    show jWp (d + 1) mX10_bars 46 [(0, jR a0), (1, jI a1), (2, jI a2), (3, jI a3), (4, jI a4), (5, jI a5)] [] h43 Q
    refine wp_aload_n 0 dX10_bars_46 rfl ?_
    have c9 := k.1
    replace k := k.2
    refine wp_getR (ci := 7) (j := 2) rfl (by decide) gX10_21 dX10_bars_47 c9 rfl ?_
    have c10 := k.1
    replace k := k.2
    refine wp_callV (ci := 5) (y' := mX7_count) (st := []) [] rfl rfl rfl fX7_count kX10_84 nX7_count dX10_bars_50 (Nat.le_of_ble_eq_true rfl) c10 ?_
    refine jCall.mono k (fun o h50 k => ?_)
    obtain ⟨v50, e, k⟩ := k
    subst e
    show jWp (d + 1) mX10_bars 53 [(0, jR a0), (1, jI a1), (2, jI a2), (3, jI a3), (4, jI a4), (5, jI a5)] [jI v50] h50 Q
    exact wp_iret dX10_bars_53 rfl k
  · replace k := k.2 q
    refine wp_iconst dX10_bars_17 ⟨by decide, by decide⟩ ?_
    exact wp_iret dX10_bars_18 rfl k
theorem bX10_putModules {d : Nat} {h : jH} {Q : jO → jH → Prop} {a0 : Nat} {a1 : Int} (k : jOK h → j32 a1 → jWp (d + 1) mX10_putModules 3 [(0, jR a0), (1, jI a1), (2, jI 31)] [] h Q) : jCall (d + 1) mX10_putModules [jR a0, jI a1] h Q := by
  refine jCall_of plX10 (Nat.le_of_ble_eq_true rfl) ?_
  show jWp (d + 1) mX10_putModules 0 [(0, jR a0), (1, jI a1)] [] h Q
  refine jw_ok (fun ok q => ?_)
  replace k := k ok (q _ (.tail _ (.head _)))
  refine wp_bipush dX10_putModules_0 ⟨by decide, by decide⟩ ?_
  refine wp_istore_n [1, 2, 0] (ls' := [(0, jR a0), (1, jI a1), (2, jI 31)]) dX10_putModules_2 (by decide) rfl ?_
  exact k
theorem bX10_putModules_3 {d : Nat} {h : jH} {Q : jO → jH → Prop} {a0 : Nat} {a1 : Int} {a2 : Int} (k : jOK h → j32 a1 → j32 a2 → ((a2 < 0 → Q (.inl none) h) ∧ (¬ (a2 < 0) → hK h a0 = 8 ∧ 0 ≤ a2 ∧ a2 < 32 ∧ hK h (hR h 702 a0) = 6 ∧ jCall d mX7_put [jR (hR h 702 a0), jI ((a1 / 2 ^ (a2).toNat) % 2)] h (fun o h16 => o = .inl none ∧ j32 (a2 + (-1)) ∧ jWp (d + 1) mX10_putModules 3 [(0, jR a0), (1, jI a1), (2, jI (a2 + (-1)))] [] h16 Q)))) : jWp (d + 1) mX10_putModules 3 [(0, jR a0), (1, jI a1), (2, jI a2)] [] h Q := by
  refine jw_ok (fun ok q => ?_)
  replace k := k ok (q _ (.tail _ (.head _))) (q _ (.tail _ (.tail _ (.head _))))
  refine wp_iload_n 2 dX10_putModules_3 rfl ?_
  refine wp_if_lt 25 dX10_putModules_4 rfl (fun q => ?_) (fun q => ?_)
  · replace k := k.1 q
    exact wp_return dX10_putModules_25 rfl k
  · replace k := k.2 q
    refine wp_aload_n 0 dX10_putModules_7 rfl ?_
    have c1 := k.1
    replace k := k.2
    refine wp_getR (ci := 7) (j := 2) rfl (by decide) gX10_21 dX10_putModules_8 c1 rfl ?_
    refine wp_iload_n 1 dX10_putModules_11 rfl ?_
    refine wp_iload_n 2 dX10_putModules_12 rfl ?_
    have c2 := k.1
    replace k := k.2
    have c3 := k.1
    replace k := k.2
    refine wp_ishr dX10_putModules_13 c2 c3 ?_
    refine wp_iconst dX10_putModules_14 ⟨by decide, by decide⟩ ?_
    refine wp_iand1 dX10_putModules_15 ?_
    have c4 := k.1
    replace k := k.2
    refine wp_callV (ci := 5) (y' := mX7_put) (st := []) [jI ((a1 / 2 ^ (a2).toNat) % 2)] rfl rfl rfl fX7_put kX10_91 nX7_put dX10_putModules_16 (Nat.le_of_ble_eq_true rfl) c4 ?_
    refine jCall.mono k (fun o h16 k => ?_)
    obtain ⟨e, k⟩ := k
    subst e
    show jWp (d + 1) mX10_putModules 19 [(0, jR a0), (1, jI a1), (2, jI a2)] [] h16 Q
    have c5 := k.1
    replace k := k.2
    refine wp_iinc 2 [1, 2, 0] (ls' := [(0, jR a0), (1, jI a1), (2, jI (a2 + (-1)))]) dX10_putModules_19 rfl c5 ⟨by decide, by decide⟩ (by decide) rfl ?_
    refine wp_goto 3 dX10_putModules_22 rfl ?_
    exact k
theorem bX10_cut {d : Nat} {h : jH} {Q : jO → jH → Prop} {a0 : Nat} {a1 : Int} (k : jOK h → j32 a1 → hK h a0 = 8 ∧ hK h (hR h 702 a0) = 6 ∧ jCall d mX7_shorten [jR (hR h 702 a0), jI a1] h (fun o h5 => ∃ v5, o = .inl (some (jI v5)) ∧ (0 ≤ v5 ∧ v5 ≤ 1) ∧ Q (.inl (some (jI v5))) h5)) : jCall (d + 1) mX10_cut [jR a0, jI a1] h Q := by
  refine jCall_of plX10 (Nat.le_of_ble_eq_true rfl) ?_
  show jWp (d + 1) mX10_cut 0 [(0, jR a0), (1, jI a1)] [] h Q
  refine jw_ok (fun ok q => ?_)
  replace k := k ok (q _ (.tail _ (.head _)))
  refine wp_aload_n 0 dX10_cut_0 rfl ?_
  have c1 := k.1
  replace k := k.2
  refine wp_getR (ci := 7) (j := 2) rfl (by decide) gX10_21 dX10_cut_1 c1 rfl ?_
  refine wp_iload_n 1 dX10_cut_4 rfl ?_
  have c2 := k.1
  replace k := k.2
  refine wp_callV (ci := 5) (y' := mX7_shorten) (st := []) [jI a1] rfl rfl rfl fX7_shorten kX10_94 nX7_shorten dX10_cut_5 (Nat.le_of_ble_eq_true rfl) c2 ?_
  refine jCall.mono k (fun o h5 k => ?_)
  obtain ⟨v5, e, k⟩ := k
  subst e
  show jWp (d + 1) mX10_cut 8 [(0, jR a0), (1, jI a1)] [jI v5] h5 Q
  have c3 := k.1
  replace k := k.2
  exact wp_zreturn dX10_cut_8 rfl c3.1 c3.2 k
theorem bX10_turn {d : Nat} {h : jH} {Q : jO → jH → Prop} {a0 : Nat} (k : jOK h → hK h a0 = 8 ∧ hK h (hR h 702 a0) = 6 ∧ jCall d mX7_turnRound [jR (hR h 702 a0)] h (fun o h4 => o = .inl none ∧ hK h4 a0 = 8 ∧ hK h4 (hR h4 702 a0) = 6 ∧ jCall d mX7_count [jR (hR h4 702 a0)] h4 (fun o h11 => ∃ v11, o = .inl (some (jI v11)) ∧ Q (.inl (some (jI v11))) h11))) : jCall (d + 1) mX10_turn [jR a0] h Q := by
  refine jCall_of plX10 (Nat.le_of_ble_eq_true rfl) ?_
  show jWp (d + 1) mX10_turn 0 [(0, jR a0)] [] h Q
  refine jw_ok (fun ok q => ?_)
  replace k := k ok 
  refine wp_aload_n 0 dX10_turn_0 rfl ?_
  have c1 := k.1
  replace k := k.2
  refine wp_getR (ci := 7) (j := 2) rfl (by decide) gX10_21 dX10_turn_1 c1 rfl ?_
  have c2 := k.1
  replace k := k.2
  refine wp_callV (ci := 5) (y' := mX7_turnRound) (st := []) [] rfl rfl rfl fX7_turnRound kX10_268 nX7_turnRound dX10_turn_4 (Nat.le_of_ble_eq_true rfl) c2 ?_
  refine jCall.mono k (fun o h4 k => ?_)
  obtain ⟨e, k⟩ := k
  subst e
  show jWp (d + 1) mX10_turn 7 [(0, jR a0)] [] h4 Q
  refine wp_aload_n 0 dX10_turn_7 rfl ?_
  have c3 := k.1
  replace k := k.2
  refine wp_getR (ci := 7) (j := 2) rfl (by decide) gX10_21 dX10_turn_8 c3 rfl ?_
  have c4 := k.1
  replace k := k.2
  refine wp_callV (ci := 5) (y' := mX7_count) (st := []) [] rfl rfl rfl fX7_count kX10_84 nX7_count dX10_turn_11 (Nat.le_of_ble_eq_true rfl) c4 ?_
  refine jCall.mono k (fun o h11 k => ?_)
  obtain ⟨v11, e, k⟩ := k
  subst e
  show jWp (d + 1) mX10_turn 14 [(0, jR a0)] [jI v11] h11 Q
  exact wp_iret dX10_turn_14 rfl k
theorem bX10_ink {d : Nat} {h : jH} {Q : jO → jH → Prop} {a0 : Nat} {a1 : Int} {a2 : Int} (k : jOK h → j32 a1 → j32 a2 → hK h a0 = 8 ∧ ((a2 = 0 → hK h (hR h 702 a0) = 6 ∧ jCall d mX7_replace [jR (hR h 702 a0), jI a1, jI 0] h (fun o h14 => ∃ v14, o = .inl (some (jI v14)) ∧ Q (.inl (some (jI v14))) h14)) ∧ (¬ (a2 = 0) → hK h (hR h 702 a0) = 6 ∧ jCall d mX7_replace [jR (hR h 702 a0), jI a1, jI 1] h (fun o h14_1 => ∃ v14_1, o = .inl (some (jI v14_1)) ∧ Q (.inl (some (jI v14_1))) h14_1)))) : jCall (d + 1) mX10_ink [jR a0, jI a1, jI a2] h Q := by
  refine jCall_of plX10 (Nat.le_of_ble_eq_true rfl) ?_
  show jWp (d + 1) mX10_ink 0 [(0, jR a0), (1, jI a1), (2, jI a2)] [] h Q
  refine jw_ok (fun ok q => ?_)
  replace k := k ok (q _ (.tail _ (.head _))) (q _ (.tail _ (.tail _ (.head _))))
  refine wp_aload_n 0 dX10_ink_0 rfl ?_
  have c1 := k.1
  replace k := k.2
  refine wp_getR (ci := 7) (j := 2) rfl (by decide) gX10_21 dX10_ink_1 c1 rfl ?_
  refine wp_iload_n 1 dX10_ink_4 rfl ?_
  refine wp_iload_n 2 dX10_ink_5 rfl ?_
  refine wp_if_eq 13 dX10_ink_6 rfl (fun q => ?_) (fun q => ?_)
  · replace k := k.1 q
    refine wp_iconst dX10_ink_13 ⟨by decide, by decide⟩ ?_
    have c2 := k.1
    replace k := k.2
    refine wp_callV (ci := 5) (y' := mX7_replace) (st := []) [jI a1, jI 0] rfl rfl rfl fX7_replace kX10_271 nX7_replace dX10_ink_14 (Nat.le_of_ble_eq_true rfl) c2 ?_
    refine jCall.mono k (fun o h14 k => ?_)
    obtain ⟨v14, e, k⟩ := k
    subst e
    show jWp (d + 1) mX10_ink 17 [(0, jR a0), (1, jI a1), (2, jI a2)] [jI v14] h14 Q
    exact wp_iret dX10_ink_17 rfl k
  · replace k := k.2 q
    refine wp_iconst dX10_ink_9 ⟨by decide, by decide⟩ ?_
    refine wp_goto 14 dX10_ink_10 rfl ?_
    have c3 := k.1
    replace k := k.2
    refine wp_callV (ci := 5) (y' := mX7_replace) (st := []) [jI a1, jI 1] rfl rfl rfl fX7_replace kX10_271 nX7_replace dX10_ink_14 (Nat.le_of_ble_eq_true rfl) c3 ?_
    refine jCall.mono k (fun o h14_1 k => ?_)
    obtain ⟨v14_1, e, k⟩ := k
    subst e
    show jWp (d + 1) mX10_ink 17 [(0, jR a0), (1, jI a1), (2, jI a2)] [jI v14_1] h14_1 Q
    exact wp_iret dX10_ink_17 rfl k
theorem bX10_module {d : Nat} {h : jH} {Q : jO → jH → Prop} {a0 : Nat} {a1 : Int} (k : jOK h → j32 a1 → hK h a0 = 8 ∧ hK h (hR h 702 a0) = 6 ∧ jCall d mX7_at [jR (hR h 702 a0), jI a1] h (fun o h5 => ∃ v5, o = .inl (some (jI v5)) ∧ Q (.inl (some (jI v5))) h5)) : jCall (d + 1) mX10_module [jR a0, jI a1] h Q := by
  refine jCall_of plX10 (Nat.le_of_ble_eq_true rfl) ?_
  show jWp (d + 1) mX10_module 0 [(0, jR a0), (1, jI a1)] [] h Q
  refine jw_ok (fun ok q => ?_)
  replace k := k ok (q _ (.tail _ (.head _)))
  refine wp_aload_n 0 dX10_module_0 rfl ?_
  have c1 := k.1
  replace k := k.2
  refine wp_getR (ci := 7) (j := 2) rfl (by decide) gX10_21 dX10_module_1 c1 rfl ?_
  refine wp_iload_n 1 dX10_module_4 rfl ?_
  have c2 := k.1
  replace k := k.2
  refine wp_callV (ci := 5) (y' := mX7_at) (st := []) [jI a1] rfl rfl rfl fX7_at kX10_170 nX7_at dX10_module_5 (Nat.le_of_ble_eq_true rfl) c2 ?_
  refine jCall.mono k (fun o h5 k => ?_)
  obtain ⟨v5, e, k⟩ := k
  subst e
  show jWp (d + 1) mX10_module 8 [(0, jR a0), (1, jI a1)] [jI v5] h5 Q
  exact wp_iret dX10_module_8 rfl k
theorem bX10_scan {d : Nat} {h : jH} {Q : jO → jH → Prop} {a0 : Nat} (k : jOK h → hK h a0 = 8 ∧ hK h (hR h 711 a0) = 1 ∧ jCall d mX0_readBars [jR (hR h 711 a0), jR (hR h 702 a0)] h (fun o h8 => o = .inl none ∧ hK h8 a0 = 8 ∧ hK h8 (hR h8 711 a0) = 1 ∧ jCall d mX0_faultSort [jR (hR h8 711 a0)] h8 (fun o h16 => ∃ v16, o = .inl (some (jI v16)) ∧ hK h16 a0 = 8 ∧ hK h16 (hR h16 711 a0) = 1 ∧ jCall d mX0_faultPlace [jR (hR h16 711 a0)] h16 (fun o h23 => ∃ v23, o = .inl (some (jI v23)) ∧ hK h23 a0 = 8 ∧ jCall d mX10_noteFault [jR a0, jI v16, jI v23] h23 (fun o h26 => o = .inl none ∧ hK h26 a0 = 8 ∧ (j32 (hI h26 713 a0) → (((hI h26 713 a0) = 0 → hK h26 (hR h26 711 a0) = 1 ∧ jCall d mX0_characters [jR (hR h26 711 a0)] h26 (fun o h43 => ∃ v43, o = .inl (some (jI v43)) ∧ hK h43 a0 = 8 ∧ hK h43 (hR h43 711 a0) = 1 ∧ jCall d mX0_isFromRight [jR (hR h43 711 a0)] (sI h43 715 a0 v43) (fun o h54 => ∃ v54, o = .inl (some (jI v54)) ∧ hK h54 a0 = 8 ∧ (0 ≤ v54 ∧ v54 ≤ 1) ∧ hK h54 (hR h54 711 a0) = 1 ∧ jCall d mX0_tell [jR (hR h54 711 a0), jR (hR h54 703 a0)] (sI h54 717 a0 v54) (fun o h68 => o = .inl none ∧ hK h68 a0 = 8 ∧ hK h68 (hR h68 711 a0) = 1 ∧ jCall d mX0_faultSort [jR (hR h68 711 a0)] h68 (fun o h76 => ∃ v76, o = .inl (some (jI v76)) ∧ hK h76 a0 = 8 ∧ hK h76 (hR h76 711 a0) = 1 ∧ jCall d mX0_faultPlace [jR (hR h76 711 a0)] h76 (fun o h83 => ∃ v83, o = .inl (some (jI v83)) ∧ hK h83 a0 = 8 ∧ jCall d mX10_noteFault [jR a0, jI v76, jI v83] h83 (fun o h86 => o = .inl none ∧ hK h86 a0 = 8 ∧ (j32 (hI h86 713 a0) → (((hI h86 713 a0) ≠ 0 → (j32 (hI (sI h86 716 a0 0) 713 a0) → (((hI (sI h86 716 a0 0) 713 a0) = 0 → (j32 (hI (sI h86 716 a0 0) 712 a0) → hK h86 (hR h86 708 a0) = 7 ∧ jCall d mX9_readText [jR (hR h86 708 a0), jR (hR h86 703 a0), jI 0, jI 0, jI (hI (sI h86 716 a0 0) 712 a0)] (sI h86 716 a0 0) (fun o h134 => o = .inl none ∧ hK h134 a0 = 8 ∧ jCall d mX10_acceptText [jR a0] h134 (fun o h138 => ∃ v138, o = .inl (some (jI v138)) ∧ Q (.inl (some (jI v138))) h138)))) ∧ (¬ ((hI (sI h86 716 a0 0) 713 a0) = 0) → Q (.inl (some (jI (-1)))) (sI h86 716 a0 0))))) ∧ ((hI h86 713 a0) = 0 → hK h86 (hR h86 703 a0) = 6 ∧ jCall d mX7_count [jR (hR h86 703 a0)] h86 (fun o h101 => ∃ v101, o = .inl (some (jI v101)) ∧ hK h101 a0 = 8 ∧ (j32 (hI (sI h101 716 a0 v101) 713 a0) → (((hI (sI h101 716 a0 v101) 713 a0) = 0 → (j32 (hI (sI h101 716 a0 v101) 712 a0) → hK h101 (hR h101 708 a0) = 7 ∧ jCall d mX9_readText [jR (hR h101 708 a0), jR (hR h101 703 a0), jI 0, jI 0, jI (hI (sI h101 716 a0 v101) 712 a0)] (sI h101 716 a0 v101) (fun o h134_1 => o = .inl none ∧ hK h134_1 a0 = 8 ∧ jCall d mX10_acceptText [jR a0] h134_1 (fun o h138_1 => ∃ v138_1, o = .inl (some (jI v138_1)) ∧ Q (.inl (some (jI v138_1))) h138_1)))) ∧ (¬ ((hI (sI h101 716 a0 v101) 713 a0) = 0) → Q (.inl (some (jI (-1)))) (sI h101 716 a0 v101))))))))))))))) ∧ (¬ ((hI h26 713 a0) = 0) → Q (.inl (some (jI (-1)))) h26)))))))) : jCall (d + 1) mX10_scan [jR a0] h Q := by
  refine jCall_of plX10 (Nat.le_of_ble_eq_true rfl) ?_
  show jWp (d + 1) mX10_scan 0 [(0, jR a0)] [] h Q
  refine jw_ok (fun ok q => ?_)
  replace k := k ok 
  refine wp_aload_n 0 dX10_scan_0 rfl ?_
  have c1 := k.1
  replace k := k.2
  refine wp_getR (ci := 7) (j := 11) rfl (by decide) gX10_70 dX10_scan_1 c1 rfl ?_
  refine wp_aload_n 0 dX10_scan_4 rfl ?_
  refine wp_getR (ci := 7) (j := 2) rfl (by decide) gX10_21 dX10_scan_5 c1 rfl ?_
  have c2 := k.1
  replace k := k.2
  refine wp_callV (ci := 0) (y' := mX0_readBars) (st := []) [jR (hR h 702 a0)] rfl rfl rfl fX0_readBars kX10_274 nX0_readBars dX10_scan_8 (Nat.le_of_ble_eq_true rfl) c2 ?_
  refine jCall.mono k (fun o h8 k => ?_)
  obtain ⟨e, k⟩ := k
  subst e
  show jWp (d + 1) mX10_scan 11 [(0, jR a0)] [] h8 Q
  refine wp_aload_n 0 dX10_scan_11 rfl ?_
  refine wp_aload_n 0 dX10_scan_12 rfl ?_
  have c3 := k.1
  replace k := k.2
  refine wp_getR (ci := 7) (j := 11) rfl (by decide) gX10_70 dX10_scan_13 c3 rfl ?_
  have c4 := k.1
  replace k := k.2
  refine wp_callV (ci := 0) (y' := mX0_faultSort) (st := [jR a0]) [] rfl rfl rfl fX0_faultSort kX10_277 nX0_faultSort dX10_scan_16 (Nat.le_of_ble_eq_true rfl) c4 ?_
  refine jCall.mono k (fun o h16 k => ?_)
  obtain ⟨v16, e, k⟩ := k
  subst e
  show jWp (d + 1) mX10_scan 19 [(0, jR a0)] [jI v16, jR a0] h16 Q
  refine wp_aload_n 0 dX10_scan_19 rfl ?_
  have c5 := k.1
  replace k := k.2
  refine wp_getR (ci := 7) (j := 11) rfl (by decide) gX10_70 dX10_scan_20 c5 rfl ?_
  have c6 := k.1
  replace k := k.2
  refine wp_callV (ci := 0) (y' := mX0_faultPlace) (st := [jI v16, jR a0]) [] rfl rfl rfl fX0_faultPlace kX10_278 nX0_faultPlace dX10_scan_23 (Nat.le_of_ble_eq_true rfl) c6 ?_
  refine jCall.mono k (fun o h23 k => ?_)
  obtain ⟨v23, e, k⟩ := k
  subst e
  show jWp (d + 1) mX10_scan 26 [(0, jR a0)] [jI v23, jI v16, jR a0] h23 Q
  have c7 := k.1
  replace k := k.2
  refine wp_callV (ci := 7) (y' := mX10_noteFault) (st := []) [jI v16, jI v23] rfl rfl rfl fX10_noteFault kX10_116 nX10_noteFault dX10_scan_26 (Nat.le_of_ble_eq_true rfl) c7 ?_
  refine jCall.mono k (fun o h26 k => ?_)
  obtain ⟨e, k⟩ := k
  subst e
  show jWp (d + 1) mX10_scan 29 [(0, jR a0)] [] h26 Q
  refine wp_aload_n 0 dX10_scan_29 rfl ?_
  have c8 := k.1
  replace k := k.2
  refine wp_getI (ci := 7) (j := 13) rfl (by decide) gX10_78 dX10_scan_30 c8 rfl (fun q => ?_)
  have f9 := q
  replace k := k q
  refine wp_if_eq 38 dX10_scan_33 rfl (fun q => ?_) (fun q => ?_)
  · replace k := k.1 q
    refine wp_aload_n 0 dX10_scan_38 rfl ?_
    refine wp_aload_n 0 dX10_scan_39 rfl ?_
    refine wp_getR (ci := 7) (j := 11) rfl (by decide) gX10_70 dX10_scan_40 c8 rfl ?_
    have c10 := k.1
    replace k := k.2
    refine wp_callV (ci := 0) (y' := mX0_characters) (st := [jR a0]) [] rfl rfl rfl fX0_characters kX10_279 nX0_characters dX10_scan_43 (Nat.le_of_ble_eq_true rfl) c10 ?_
    refine jCall.mono k (fun o h43 k => ?_)
    obtain ⟨v43, e, k⟩ := k
    subst e
    show jWp (d + 1) mX10_scan 46 [(0, jR a0)] [jI v43, jR a0] h43 Q
    have c11 := k.1
    replace k := k.2
    refine wp_putI (ci := 7) (j := 15) rfl (by decide) gX10_282 dX10_scan_46 c11 (Or.inl rfl) rfl ?_
    refine wp_aload_n 0 dX10_scan_49 rfl ?_
    refine wp_aload_n 0 dX10_scan_50 rfl ?_
    refine wp_getR (ci := 7) (j := 11) rfl (by decide) gX10_70 dX10_scan_51 c11 rfl ?_
    have c12 := k.1
    replace k := k.2
    refine wp_callV (ci := 0) (y' := mX0_isFromRight) (st := [jR a0]) [] rfl rfl rfl fX0_isFromRight kX10_285 nX0_isFromRight dX10_scan_54 (Nat.le_of_ble_eq_true rfl) c12 ?_
    refine jCall.mono k (fun o h54 k => ?_)
    obtain ⟨v54, e, k⟩ := k
    subst e
    show jWp (d + 1) mX10_scan 57 [(0, jR a0)] [jI v54, jR a0] h54 Q
    have c13 := k.1
    replace k := k.2
    have c14 := k.1
    replace k := k.2
    refine wp_putZ (ci := 7) (j := 17) rfl (by decide) gX10_288 dX10_scan_57 c13 (Or.inl rfl) rfl c14 ?_
    refine wp_aload_n 0 dX10_scan_60 rfl ?_
    refine wp_getR (ci := 7) (j := 11) rfl (by decide) gX10_70 dX10_scan_61 c13 rfl ?_
    refine wp_aload_n 0 dX10_scan_64 rfl ?_
    refine wp_getR (ci := 7) (j := 3) rfl (by decide) gX10_24 dX10_scan_65 c13 rfl ?_
    have c15 := k.1
    replace k := k.2
    refine wp_callV (ci := 0) (y' := mX0_tell) (st := []) [jR (hR h54 703 a0)] rfl rfl rfl fX0_tell kX10_292 nX0_tell dX10_scan_68 (Nat.le_of_ble_eq_true rfl) c15 ?_
    refine jCall.mono k (fun o h68 k => ?_)
    obtain ⟨e, k⟩ := k
    subst e
    show jWp (d + 1) mX10_scan 71 [(0, jR a0)] [] h68 Q
    refine wp_aload_n 0 dX10_scan_71 rfl ?_
    refine wp_aload_n 0 dX10_scan_72 rfl ?_
    have c16 := k.1
    replace k := k.2
    refine wp_getR (ci := 7) (j := 11) rfl (by decide) gX10_70 dX10_scan_73 c16 rfl ?_
    have c17 := k.1
    replace k := k.2
    refine wp_callV (ci := 0) (y' := mX0_faultSort) (st := [jR a0]) [] rfl rfl rfl fX0_faultSort kX10_277 nX0_faultSort dX10_scan_76 (Nat.le_of_ble_eq_true rfl) c17 ?_
    refine jCall.mono k (fun o h76 k => ?_)
    obtain ⟨v76, e, k⟩ := k
    subst e
    show jWp (d + 1) mX10_scan 79 [(0, jR a0)] [jI v76, jR a0] h76 Q
    refine wp_aload_n 0 dX10_scan_79 rfl ?_
    have c18 := k.1
    replace k := k.2
    refine wp_getR (ci := 7) (j := 11) rfl (by decide) gX10_70 dX10_scan_80 c18 rfl ?_
    have c19 := k.1
    replace k := k.2
    refine wp_callV (ci := 0) (y' := mX0_faultPlace) (st := [jI v76, jR a0]) [] rfl rfl rfl fX0_faultPlace kX10_278 nX0_faultPlace dX10_scan_83 (Nat.le_of_ble_eq_true rfl) c19 ?_
    refine jCall.mono k (fun o h83 k => ?_)
    obtain ⟨v83, e, k⟩ := k
    subst e
    show jWp (d + 1) mX10_scan 86 [(0, jR a0)] [jI v83, jI v76, jR a0] h83 Q
    have c20 := k.1
    replace k := k.2
    refine wp_callV (ci := 7) (y' := mX10_noteFault) (st := []) [jI v76, jI v83] rfl rfl rfl fX10_noteFault kX10_116 nX10_noteFault dX10_scan_86 (Nat.le_of_ble_eq_true rfl) c20 ?_
    refine jCall.mono k (fun o h86 k => ?_)
    obtain ⟨e, k⟩ := k
    subst e
    show jWp (d + 1) mX10_scan 89 [(0, jR a0)] [] h86 Q
    refine wp_aload_n 0 dX10_scan_89 rfl ?_
    refine wp_aload_n 0 dX10_scan_90 rfl ?_
    have c21 := k.1
    replace k := k.2
    refine wp_getI (ci := 7) (j := 13) rfl (by decide) gX10_78 dX10_scan_91 c21 rfl (fun q => ?_)
    have f22 := q
    replace k := k q
    refine wp_if_ne 107 dX10_scan_94 rfl (fun q => ?_) (fun q => ?_)
    · replace k := k.1 q
      refine wp_iconst dX10_scan_107 ⟨by decide, by decide⟩ ?_
      refine wp_putI (ci := 7) (j := 16) rfl (by decide) gX10_295 dX10_scan_108 c21 (Or.inl rfl) rfl ?_
      refine wp_aload_n 0 dX10_scan_111 rfl ?_
      refine wp_getI (ci := 7) (j := 13) rfl (by decide) gX10_78 dX10_scan_112 c21 rfl (fun q => ?_)
      have f23 := q
      replace k := k q
      refine wp_if_eq 120 dX10_scan_115 rfl (fun q => ?_) (fun q => ?_)
      · replace k := k.1 q
        refine wp_aload_n 0 dX10_scan_120 rfl ?_
        refine wp_getR (ci := 7) (j := 8) rfl (by decide) gX10_47 dX10_scan_121 c21 rfl ?_
        refine wp_aload_n 0 dX10_scan_124 rfl ?_
        refine wp_getR (ci := 7) (j := 3) rfl (by decide) gX10_24 dX10_scan_125 c21 rfl ?_
        refine wp_iconst dX10_scan_128 ⟨by decide, by decide⟩ ?_
        refine wp_iconst dX10_scan_129 ⟨by decide, by decide⟩ ?_
        refine wp_aload_n 0 dX10_scan_130 rfl ?_
        refine wp_getI (ci := 7) (j := 12) rfl (by decide) gX10_74 dX10_scan_131 c21 rfl (fun q => ?_)
        have f24 := q
        replace k := k q
        have c25 := k.1
        replace k := k.2
        refine wp_callV (ci := 6) (y' := mX9_readText) (st := []) [jR (hR h86 703 a0), jI 0, jI 0, jI (hI (sI h86 716 a0 0) 712 a0)] rfl rfl rfl fX9_readText kX10_102 nX9_readText dX10_scan_134 (Nat.le_of_ble_eq_true rfl) c25 ?_
        refine jCall.mono k (fun o h134 k => ?_)
        obtain ⟨e, k⟩ := k
        subst e
        show jWp (d + 1) mX10_scan 137 [(0, jR a0)] [] h134 Q
        refine wp_aload_n 0 dX10_scan_137 rfl ?_
        have c26 := k.1
        replace k := k.2
        refine wp_callV (ci := 7) (y' := mX10_acceptText) (st := []) [] rfl rfl rfl fX10_acceptText kX10_109 nX10_acceptText dX10_scan_138 (Nat.le_of_ble_eq_true rfl) c26 ?_
        refine jCall.mono k (fun o h138 k => ?_)
        obtain ⟨v138, e, k⟩ := k
        subst e
        show jWp (d + 1) mX10_scan 141 [(0, jR a0)] [jI v138] h138 Q
        exact wp_iret dX10_scan_141 rfl k
      · replace k := k.2 q
        refine wp_iconst dX10_scan_118 ⟨by decide, by decide⟩ ?_
        exact wp_iret dX10_scan_119 rfl k
    · replace k := k.2 q
      refine wp_aload_n 0 dX10_scan_97 rfl ?_
      refine wp_getR (ci := 7) (j := 3) rfl (by decide) gX10_24 dX10_scan_98 c21 rfl ?_
      have c27 := k.1
      replace k := k.2
      refine wp_callV (ci := 5) (y' := mX7_count) (st := [jR a0]) [] rfl rfl rfl fX7_count kX10_84 nX7_count dX10_scan_101 (Nat.le_of_ble_eq_true rfl) c27 ?_
      refine jCall.mono k (fun o h101 k => ?_)
      obtain ⟨v101, e, k⟩ := k
      subst e
      show jWp (d + 1) mX10_scan 104 [(0, jR a0)] [jI v101, jR a0] h101 Q
      refine wp_goto 108 dX10_scan_104 rfl ?_
      have c28 := k.1
      replace k := k.2
      refine wp_putI (ci := 7) (j := 16) rfl (by decide) gX10_295 dX10_scan_108 c28 (Or.inl rfl) rfl ?_
      refine wp_aload_n 0 dX10_scan_111 rfl ?_
      refine wp_getI (ci := 7) (j := 13) rfl (by decide) gX10_78 dX10_scan_112 c28 rfl (fun q => ?_)
      have f29 := q
      replace k := k q
      refine wp_if_eq 120 dX10_scan_115 rfl (fun q => ?_) (fun q => ?_)
      · replace k := k.1 q
        refine wp_aload_n 0 dX10_scan_120 rfl ?_
        refine wp_getR (ci := 7) (j := 8) rfl (by decide) gX10_47 dX10_scan_121 c28 rfl ?_
        refine wp_aload_n 0 dX10_scan_124 rfl ?_
        refine wp_getR (ci := 7) (j := 3) rfl (by decide) gX10_24 dX10_scan_125 c28 rfl ?_
        refine wp_iconst dX10_scan_128 ⟨by decide, by decide⟩ ?_
        refine wp_iconst dX10_scan_129 ⟨by decide, by decide⟩ ?_
        refine wp_aload_n 0 dX10_scan_130 rfl ?_
        refine wp_getI (ci := 7) (j := 12) rfl (by decide) gX10_74 dX10_scan_131 c28 rfl (fun q => ?_)
        have f30 := q
        replace k := k q
        have c31 := k.1
        replace k := k.2
        refine wp_callV (ci := 6) (y' := mX9_readText) (st := []) [jR (hR h101 703 a0), jI 0, jI 0, jI (hI (sI h101 716 a0 v101) 712 a0)] rfl rfl rfl fX9_readText kX10_102 nX9_readText dX10_scan_134 (Nat.le_of_ble_eq_true rfl) c31 ?_
        refine jCall.mono k (fun o h134_1 k => ?_)
        obtain ⟨e, k⟩ := k
        subst e
        show jWp (d + 1) mX10_scan 137 [(0, jR a0)] [] h134_1 Q
        refine wp_aload_n 0 dX10_scan_137 rfl ?_
        have c32 := k.1
        replace k := k.2
        refine wp_callV (ci := 7) (y' := mX10_acceptText) (st := []) [] rfl rfl rfl fX10_acceptText kX10_109 nX10_acceptText dX10_scan_138 (Nat.le_of_ble_eq_true rfl) c32 ?_
        refine jCall.mono k (fun o h138_1 k => ?_)
        obtain ⟨v138_1, e, k⟩ := k
        subst e
        show jWp (d + 1) mX10_scan 141 [(0, jR a0)] [jI v138_1] h138_1 Q
        exact wp_iret dX10_scan_141 rfl k
      · replace k := k.2 q
        refine wp_iconst dX10_scan_118 ⟨by decide, by decide⟩ ?_
        exact wp_iret dX10_scan_119 rfl k
  · replace k := k.2 q
    refine wp_iconst dX10_scan_36 ⟨by decide, by decide⟩ ?_
    exact wp_iret dX10_scan_37 rfl k
theorem bX10_scanned {d : Nat} {h : jH} {Q : jO → jH → Prop} {a0 : Nat} {a1 : Int} (k : jOK h → j32 a1 → ((a1 = 0 → hK h a0 = 8 ∧ (j32 (hI h 715 a0) → Q (.inl (some (jI (hI h 715 a0)))) h)) ∧ (a1 = 1 → hK h a0 = 8 ∧ (j32 (hI h 716 a0) → Q (.inl (some (jI (hI h 716 a0)))) h)) ∧ (a1 = 2 → hK h a0 = 8 ∧ (j32 (hI h 717 a0) → (((hI h 717 a0) = 0 → Q (.inl (some (jI 0))) h) ∧ (¬ ((hI h 717 a0) = 0) → Q (.inl (some (jI 1))) h)))) ∧ (a1 ≠ 0 → a1 ≠ 1 → a1 ≠ 2 → Q (.inl (some (jI (-1)))) h))) : jCall d mX10_scanned [jR a0, jI a1] h Q := by
  refine jCall_of plX10 (Nat.le_of_ble_eq_true rfl) ?_
  show jWp d mX10_scanned 0 [(0, jR a0), (1, jI a1)] [] h Q
  refine jw_ok (fun ok q => ?_)
  replace k := k ok (q _ (.tail _ (.head _)))
  refine wp_iload_n 1 dX10_scanned_0 rfl ?_
  refine wp_table dX10_scanned_1 51 rfl (fun q => ?_) (fun q q9 => ?_)
  · replace k := k.2.2.2 (by omega) (by omega) (by omega)
    refine wp_iconst dX10_scanned_51 ⟨by decide, by decide⟩ ?_
    exact wp_iret dX10_scanned_52 rfl k
  · have q8 : a1 = 0 ∨ a1 = 1 ∨ a1 = 2 := by omega
    rcases q8 with q8 | q8 | q8
    · refine ⟨27, 28, by rw [q8]; rfl, rfl, ?_⟩
      replace k := k.1 q8
      refine wp_aload_n 0 dX10_scanned_28 rfl ?_
      have c1 := k.1
      replace k := k.2
      refine wp_getI (ci := 7) (j := 15) rfl (by decide) gX10_282 dX10_scanned_29 c1 rfl (fun q => ?_)
      have f2 := q
      replace k := k q
      exact wp_iret dX10_scanned_32 rfl k
    · refine ⟨32, 33, by rw [q8]; rfl, rfl, ?_⟩
      replace k := k.2.1 q8
      refine wp_aload_n 0 dX10_scanned_33 rfl ?_
      have c3 := k.1
      replace k := k.2
      refine wp_getI (ci := 7) (j := 16) rfl (by decide) gX10_295 dX10_scanned_34 c3 rfl (fun q => ?_)
      have f4 := q
      replace k := k q
      exact wp_iret dX10_scanned_37 rfl k
    · refine ⟨37, 38, by rw [q8]; rfl, rfl, ?_⟩
      replace k := k.2.2.1 q8
      refine wp_aload_n 0 dX10_scanned_38 rfl ?_
      have c5 := k.1
      replace k := k.2
      refine wp_getI (ci := 7) (j := 17) rfl (by decide) gX10_288 dX10_scanned_39 c5 rfl (fun q => ?_)
      have f6 := q
      replace k := k q
      refine wp_if_eq 49 dX10_scanned_42 rfl (fun q => ?_) (fun q => ?_)
      · replace k := k.1 q
        refine wp_iconst dX10_scanned_49 ⟨by decide, by decide⟩ ?_
        exact wp_iret dX10_scanned_50 rfl k
      · replace k := k.2 q
        refine wp_iconst dX10_scanned_45 ⟨by decide, by decide⟩ ?_
        refine wp_goto 50 dX10_scanned_46 rfl ?_
        exact wp_iret dX10_scanned_50 rfl k
