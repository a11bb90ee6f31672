/-! BLOCKS (made by wip/whole/gen/genblk.py) -/
theorem bX9_init {d : Nat} {h : jH} {Q : jO → jH → Prop} {a0 : Nat} (k : jOK h → a0 ≠ 0 ∧ (hS h) ≠ 0 ∧ jCall d mX6_init [jR (hS h)] (sN h 5 0 3) (fun o h9 => o = .inl none ∧ hK h9 a0 = 7 ∧ (hS h9) ≠ 0 ∧ jCall d mX7_init [jR (hS h9), jI 20] (sN (sR h9 600 a0 (hS h)) 6 0 2) (fun o h22 => o = .inl none ∧ hK h22 a0 = 7 ∧ (hS h22) ≠ 0 ∧ jCall d mX7_init [jR (hS h22), jI 0] (sN (sR h22 601 a0 (hS h9)) 6 0 2) (fun o h34 => o = .inl none ∧ hK h34 a0 = 7 ∧ Q (.inl none) (sR h34 602 a0 (hS h22)))))) : jCall (d + 1) mX9_init [jR a0] h Q := by
  refine jCall_of plX9 (Nat.le_of_ble_eq_true rfl) ?_
  show jWp (d + 1) mX9_init 0 [(0, jR a0)] [] h Q
  refine jw_ok (fun ok q => ?_)
  replace k := k ok 
  refine wp_aload_n 0 dX9_init_0 rfl ?_
  have c1 := k.1
  replace k := k.2
  refine wp_objInit dX9_init_1 kX9_3 c1 (Nat.le_of_ble_eq_true rfl) ?_
  refine wp_aload_n 0 dX9_init_4 rfl ?_
  refine wp_new (ci := 4) rfl qX9_9 iX6 inX6 dX9_init_5 ?_
  refine wp_dup dX9_init_8 rfl ?_
  have c2 := k.1
  replace k := k.2
  refine wp_callI (y' := mX6_init) (st := [jR (hS h), jR a0]) [] rfl fX6_init kX9_11 nX6_init dX9_init_9 (Nat.le_of_ble_eq_true rfl) c2 ?_
  refine jCall.mono k (fun o h9 k => ?_)
  obtain ⟨e, k⟩ := k
  refine ⟨e, ?_⟩
  show jWp (d + 1) mX9_init 12 [(0, jR a0)] [jR (hS h), jR a0] h9 Q
  have c3 := k.1
  replace k := k.2
  refine wp_putR (ci := 6) (j := 0) rfl (by decide) gX9_12 dX9_init_12 c3 (Or.inr ⟨rfl, rfl, rfl⟩) rfl ?_
  refine wp_aload_n 0 dX9_init_15 rfl ?_
  refine wp_new (ci := 5) rfl qX9_18 iX7 inX7 dX9_init_16 ?_
  refine wp_dup dX9_init_19 rfl ?_
  refine wp_bipush dX9_init_20 ⟨by decide, by decide⟩ ?_
  have c4 := k.1
  replace k := k.2
  refine wp_callI (y' := mX7_init) (st := [jR (hS h9), jR a0]) [jI 20] rfl fX7_init kX9_20 nX7_init dX9_init_22 (Nat.le_of_ble_eq_true rfl) c4 ?_
  refine jCall.mono k (fun o h22 k => ?_)
  obtain ⟨e, k⟩ := k
  refine ⟨e, ?_⟩
  show jWp (d + 1) mX9_init 25 [(0, jR a0)] [jR (hS h9), jR a0] h22 Q
  have c5 := k.1
  replace k := k.2
  refine wp_putR (ci := 6) (j := 1) rfl (by decide) gX9_23 dX9_init_25 c5 (Or.inr ⟨rfl, rfl, rfl⟩) rfl ?_
  refine wp_aload_n 0 dX9_init_28 rfl ?_
  refine wp_new (ci := 5) rfl qX9_18 iX7 inX7 dX9_init_29 ?_
  refine wp_dup dX9_init_32 rfl ?_
  refine wp_iconst dX9_init_33 ⟨by decide, by decide⟩ ?_
  have c6 := k.1
  replace k := k.2
  refine wp_callI (y' := mX7_init) (st := [jR (hS h22), jR a0]) [jI 0] rfl fX7_init kX9_20 nX7_init dX9_init_34 (Nat.le_of_ble_eq_true rfl) c6 ?_
  refine jCall.mono k (fun o h34 k => ?_)
  obtain ⟨e, k⟩ := k
  refine ⟨e, ?_⟩
  show jWp (d + 1) mX9_init 37 [(0, jR a0)] [jR (hS h22), jR a0] h34 Q
  have c7 := k.1
  replace k := k.2
  refine wp_putR (ci := 6) (j := 2) rfl (by decide) gX9_27 dX9_init_37 c7 (Or.inl rfl) rfl ?_
  exact wp_return dX9_init_40 rfl k
theorem bX9_label {d : Nat} {h : jH} {Q : jO → jH → Prop} {a0 : Nat} (k : jOK h → hK h a0 = 7 ∧ Q (.inl (some (jR (hR h 600 a0)))) h) : jCall d mX9_label [jR a0] h Q := by
  refine jCall_of plX9 (Nat.le_of_ble_eq_true rfl) ?_
  show jWp d mX9_label 0 [(0, jR a0)] [] h Q
  refine jw_ok (fun ok q => ?_)
  replace k := k ok 
  refine wp_aload_n 0 dX9_label_0 rfl ?_
  have c1 := k.1
  replace k := k.2
  refine wp_getR (ci := 6) (j := 0) rfl (by decide) gX9_12 dX9_label_1 c1 rfl ?_
  exact wp_areturn dX9_label_4 rfl k
theorem bX9_faultSort {d : Nat} {h : jH} {Q : jO → jH → Prop} {a0 : Nat} (k : jOK h → hK h a0 = 7 ∧ (j32 (hI h 606 a0) → Q (.inl (some (jI (hI h 606 a0)))) h)) : jCall d mX9_faultSort [jR a0] h Q := by
  refine jCall_of plX9 (Nat.le_of_ble_eq_true rfl) ?_
  show jWp d mX9_faultSort 0 [(0, jR a0)] [] h Q
  refine jw_ok (fun ok q => ?_)
  replace k := k ok 
  refine wp_aload_n 0 dX9_faultSort_0 rfl ?_
  have c1 := k.1
  replace k := k.2
  refine wp_getI (ci := 6) (j := 6) rfl (by decide) gX9_30 dX9_faultSort_1 c1 rfl (fun q => ?_)
  have f2 := q
  replace k := k q
  exact wp_iret dX9_faultSort_4 rfl k
theorem bX9_faultPlace {d : Nat} {h : jH} {Q : jO → jH → Prop} {a0 : Nat} (k : jOK h → hK h a0 = 7 ∧ (j32 (hI h 607 a0) → Q (.inl (some (jI (hI h 607 a0)))) h)) : jCall d mX9_faultPlace [jR a0] h Q := by
  refine jCall_of plX9 (Nat.le_of_ble_eq_true rfl) ?_
  show jWp d mX9_faultPlace 0 [(0, jR a0)] [] h Q
  refine jw_ok (fun ok q => ?_)
  replace k := k ok 
  refine wp_aload_n 0 dX9_faultPlace_0 rfl ?_
  have c1 := k.1
  replace k := k.2
  refine wp_getI (ci := 6) (j := 7) rfl (by decide) gX9_34 dX9_faultPlace_1 c1 rfl (fun q => ?_)
  have f2 := q
  replace k := k q
  exact wp_iret dX9_faultPlace_4 rfl k
theorem bX9_readText {d : Nat} {h : jH} {Q : jO → jH → Prop} {a0 : Nat} {a1 : Nat} {a2 : Int} {a3 : Int} {a4 : Int} (k : jOK h → j32 a2 → j32 a3 → j32 a4 → hK h a0 = 7 ∧ (0 ≤ a2 ∧ a2 ≤ 1) ∧ hK h (hR (sR h 602 a0 a1) 600 a0) = 5 ∧ jCall d mX6_clear [jR (hR (sR h 602 a0 a1) 600 a0)] (sI (sI (sI (sI (sI (sR h 602 a0 a1) 603 a0 a2) 604 a0 a4) 605 a0 0) 606 a0 0) 607 a0 (-1)) (fun o h35 => o = .inl none ∧ hK h35 a0 = 7 ∧ hK h35 (hR h35 601 a0) = 6 ∧ jCall d mX7_clear [jR (hR h35 601 a0)] h35 (fun o h42 => o = .inl none ∧ jWp (d + 1) mX9_readText 48 [(0, jR a0), (3, jI a3), (5, jI 0)] [] h42 Q))) : jCall (d + 1) mX9_readText [jR a0, jR a1, jI a2, jI a3, jI a4] h Q := by
  refine jCall_of plX9 (Nat.le_of_ble_eq_true rfl) ?_
  show jWp (d + 1) mX9_readText 0 [(0, jR a0), (1, jR a1), (2, jI a2), (3, jI a3), (4, jI a4)] [] h Q
  refine jw_ok (fun ok q => ?_)
  replace k := k ok (q _ (.tail _ (.tail _ (.head _)))) (q _ (.tail _ (.tail _ (.tail _ (.head _))))) (q _ (.tail _ (.tail _ (.tail _ (.tail _ (.head _))))))
  refine wp_aload_n 0 dX9_readText_0 rfl ?_
  refine wp_aload_n 1 dX9_readText_1 rfl ?_
  have c1 := k.1
  replace k := k.2
  refine wp_putR (ci := 6) (j := 2) rfl (by decide) gX9_27 dX9_readText_2 c1 (Or.inl rfl) rfl ?_
  refine wp_aload_n 0 dX9_readText_5 rfl ?_
  refine wp_iload_n 2 dX9_readText_6 rfl ?_
  have c2 := k.1
  replace k := k.2
  refine wp_putZ (ci := 6) (j := 3) rfl (by decide) gX9_37 dX9_readText_7 c1 (Or.inl rfl) rfl c2 ?_
  refine wp_aload_n 0 dX9_readText_10 rfl ?_
  refine wp_iload 4 dX9_readText_11 rfl ?_
  refine wp_putI (ci := 6) (j := 4) rfl (by decide) gX9_41 dX9_readText_13 c1 (Or.inl rfl) rfl ?_
  refine wp_aload_n 0 dX9_readText_16 rfl ?_
  refine wp_iconst dX9_readText_17 ⟨by decide, by decide⟩ ?_
  refine wp_putI (ci := 6) (j := 5) rfl (by decide) gX9_44 dX9_readText_18 c1 (Or.inl rfl) rfl ?_
  refine wp_aload_n 0 dX9_readText_21 rfl ?_
  refine wp_iconst dX9_readText_22 ⟨by decide, by decide⟩ ?_
  refine wp_putI (ci := 6) (j := 6) rfl (by decide) gX9_30 dX9_readText_23 c1 (Or.inl rfl) rfl ?_
  refine wp_aload_n 0 dX9_readText_26 rfl ?_
  refine wp_iconst dX9_readText_27 ⟨by decide, by decide⟩ ?_
  refine wp_putI (ci := 6) (j := 7) rfl (by decide) gX9_34 dX9_readText_28 c1 (Or.inl rfl) rfl ?_
  refine wp_aload_n 0 dX9_readText_31 rfl ?_
  refine wp_getR (ci := 6) (j := 0) rfl (by decide) gX9_12 dX9_readText_32 c1 rfl ?_
  have c3 := k.1
  replace k := k.2
  refine wp_callV (ci := 4) (y' := mX6_clear) (st := []) [] rfl rfl rfl fX6_clear kX9_47 nX6_clear dX9_readText_35 (Nat.le_of_ble_eq_true rfl) c3 ?_
  refine jCall.mono k (fun o h35 k => ?_)
  obtain ⟨e, k⟩ := k
  subst e
  show jWp (d + 1) mX9_readText 38 [(0, jR a0), (1, jR a1), (2, jI a2), (3, jI a3), (4, jI a4)] [] h35 Q
  refine wp_aload_n 0 dX9_readText_38 rfl ?_
  have c4 := k.1
  replace k := k.2
  refine wp_getR (ci := 6) (j := 1) rfl (by decide) gX9_23 dX9_readText_39 c4 rfl ?_
  have c5 := k.1
  replace k := k.2
  refine wp_callV (ci := 5) (y' := mX7_clear) (st := []) [] rfl rfl rfl fX7_clear kX9_50 nX7_clear dX9_readText_42 (Nat.le_of_ble_eq_true rfl) c5 ?_
  refine jCall.mono k (fun o h42 k => ?_)
  obtain ⟨e, k⟩ := k
  subst e
  show jWp (d + 1) mX9_readText 45 [(0, jR a0), (1, jR a1), (2, jI a2), (3, jI a3), (4, jI a4)] [] h42 Q
  refine wp_iconst dX9_readText_45 ⟨by decide, by decide⟩ ?_
  refine wp_istore [1, 4, 0] (ls' := [(0, jR a0), (3, jI a3), (5, jI 0)]) dX9_readText_46 (by decide) rfl ?_
  exact k
theorem bX9_readText_48 {d : Nat} {h : jH} {Q : jO → jH → Prop} {a0 : Nat} {a3 : Int} {a5 : Int} (k : jOK h → j32 a3 → j32 a5 → ((20 < a5 → hK h a0 = 7 ∧ jCall d mX9_judgeTogether [jR a0, jI a3] h (fun o h148 => o = .inl none ∧ Q (.inl none) h148)) ∧ (¬ (20 < a5) → hK h a0 = 7 ∧ (j32 (hI h 603 a0) → (((hI h 603 a0) = 0 → jCall d mX9_readPlainAi [jR a0] h (fun o h70 => ∃ v70, o = .inl (some (jR v70)) ∧ ((v70 = 0 → Q (.inl none) h70) ∧ (¬ (v70 = 0) → hK h70 a0 = 7 ∧ jCall d mX9_readValue [jR a0, jR v70] h70 (fun o h83 => ∃ v83, o = .inl (some (jI v83)) ∧ ((v83 ≠ 0 → hK h83 a0 = 7 ∧ (j32 (hI h83 605 a0) → hK h83 (hR h83 602 a0) = 6 ∧ jCall d mX7_count [jR (hR h83 602 a0)] h83 (fun o h98 => ∃ v98, o = .inl (some (jI v98)) ∧ (((hI h83 605 a0) < v98 → hK h98 a0 = 7 ∧ (j32 (hI h98 603 a0) → (((hI h98 603 a0) ≠ 0 → jWp (d + 1) mX9_readText 140 [(0, jR a0), (3, jI a3), (5, jI a5)] [] h98 Q) ∧ ((hI h98 603 a0) = 0 → (j32 (hI h98 605 a0) → hK h98 (hR h98 602 a0) = 6 ∧ jCall d mX7_at [jR (hR h98 602 a0), jI (hI h98 605 a0)] h98 (fun o h122 => ∃ v122, o = .inl (some (jI v122)) ∧ ((v122 ≠ 29 → jWp (d + 1) mX9_readText 140 [(0, jR a0), (3, jI a3), (5, jI a5)] [] h122 Q) ∧ (v122 = 29 → hK h122 a0 = 7 ∧ (j32 (hI h122 605 a0) → j32 ((hI h122 605 a0) + 1) ∧ jWp (d + 1) mX9_readText 140 [(0, jR a0), (3, jI a3), (5, jI a5)] [] (sI h122 605 a0 ((hI h122 605 a0) + 1)) Q))))))))) ∧ (¬ ((hI h83 605 a0) < v98) → hK h98 a0 = 7 ∧ jCall d mX9_judgeTogether [jR a0, jI a3] h98 (fun o h148_1 => o = .inl none ∧ Q (.inl none) h148_1)))))) ∧ (v83 = 0 → Q (.inl none) h83))))))) ∧ (¬ ((hI h 603 a0) = 0) → jCall d mX9_readBracketedAi [jR a0] h (fun o h63 => ∃ v63, o = .inl (some (jR v63)) ∧ ((v63 = 0 → Q (.inl none) h63) ∧ (¬ (v63 = 0) → hK h63 a0 = 7 ∧ jCall d mX9_readValue [jR a0, jR v63] h63 (fun o h83_1 => ∃ v83_1, o = .inl (some (jI v83_1)) ∧ ((v83_1 ≠ 0 → hK h83_1 a0 = 7 ∧ (j32 (hI h83_1 605 a0) → hK h83_1 (hR h83_1 602 a0) = 6 ∧ jCall d mX7_count [jR (hR h83_1 602 a0)] h83_1 (fun o h98_1 => ∃ v98_1, o = .inl (some (jI v98_1)) ∧ (((hI h83_1 605 a0) < v98_1 → hK h98_1 a0 = 7 ∧ (j32 (hI h98_1 603 a0) → (((hI h98_1 603 a0) ≠ 0 → jWp (d + 1) mX9_readText 140 [(0, jR a0), (3, jI a3), (5, jI a5)] [] h98_1 Q) ∧ ((hI h98_1 603 a0) = 0 → (j32 (hI h98_1 605 a0) → hK h98_1 (hR h98_1 602 a0) = 6 ∧ jCall d mX7_at [jR (hR h98_1 602 a0), jI (hI h98_1 605 a0)] h98_1 (fun o h122_1 => ∃ v122_1, o = .inl (some (jI v122_1)) ∧ ((v122_1 ≠ 29 → jWp (d + 1) mX9_readText 140 [(0, jR a0), (3, jI a3), (5, jI a5)] [] h122_1 Q) ∧ (v122_1 = 29 → hK h122_1 a0 = 7 ∧ (j32 (hI h122_1 605 a0) → j32 ((hI h122_1 605 a0) + 1) ∧ jWp (d + 1) mX9_readText 140 [(0, jR a0), (3, jI a3), (5, jI a5)] [] (sI h122_1 605 a0 ((hI h122_1 605 a0) + 1)) Q))))))))) ∧ (¬ ((hI h83_1 605 a0) < v98_1) → hK h98_1 a0 = 7 ∧ jCall d mX9_judgeTogether [jR a0, jI a3] h98_1 (fun o h148_2 => o = .inl none ∧ Q (.inl none) h148_2)))))) ∧ (v83_1 = 0 → Q (.inl none) h83_1)))))))))))) : jWp (d + 1) mX9_readText 48 [(0, jR a0), (3, jI a3), (5, jI a5)] [] h Q := by
  refine jw_ok (fun ok q => ?_)
  replace k := k ok (q _ (.tail _ (.head _))) (q _ (.tail _ (.tail _ (.head _))))
  refine wp_iload 2 dX9_readText_48 rfl ?_
  refine wp_bipush dX9_readText_50 ⟨by decide, by decide⟩ ?_
  refine wp_icmp_gt 146 dX9_readText_52 rfl (fun q => ?_) (fun q => ?_)
  · replace k := k.1 q
    refine wp_aload_n 0 dX9_readText_146 rfl ?_
    refine wp_iload_n 1 dX9_readText_147 rfl ?_
    have c1 := k.1
    replace k := k.2
    refine wp_callV (ci := 6) (y' := mX9_judgeTogether) (st := []) [jI a3] rfl rfl rfl fX9_judgeTogether kX9_70 nX9_judgeTogether dX9_readText_148 (Nat.le_of_ble_eq_true rfl) c1 ?_
    refine jCall.mono k (fun o h148 k => ?_)
    obtain ⟨e, k⟩ := k
    subst e
    show jWp (d + 1) mX9_readText 151 [(0, jR a0), (3, jI a3), (5, jI a5)] [] h148 Q
    exact wp_return dX9_readText_151 rfl k
  · replace k := k.2 q
    refine wp_aload_n 0 dX9_readText_55 rfl ?_
    have c2 := k.1
    replace k := k.2
    refine wp_getI (ci := 6) (j := 3) rfl (by decide) gX9_37 dX9_readText_56 c2 rfl (fun q => ?_)
    have f3 := q
    replace k := k q
    refine wp_if_eq 69 dX9_readText_59 rfl (fun q => ?_) (fun q => ?_)
    · replace k := k.1 q
      refine wp_aload_n 0 dX9_readText_69 rfl ?_
      refine wp_callV (ci := 6) (y' := mX9_readPlainAi) (st := []) [] rfl rfl rfl fX9_readPlainAi kX9_55 nX9_readPlainAi dX9_readText_70 (Nat.le_of_ble_eq_true rfl) c2 ?_
      refine jCall.mono k (fun o h70 k => ?_)
      obtain ⟨v70, e, k⟩ := k
      subst e
      show jWp (d + 1) mX9_readText 73 [(0, jR a0), (3, jI a3), (5, jI a5)] [jR v70] h70 Q
      refine wp_astore [1, 2, 3, 0] (ls' := [(0, jR a0), (3, jI a3), (5, jI a5), (6, jR v70)]) dX9_readText_73 (by decide) rfl ?_
      refine wp_aload 3 dX9_readText_75 rfl ?_
      refine wp_ifnull 89 dX9_readText_77 rfl (fun q => ?_) (fun q => ?_)
      · replace k := k.1 q
        exact wp_return dX9_readText_89 rfl k
      · replace k := k.2 q
        refine wp_aload_n 0 dX9_readText_80 rfl ?_
        refine wp_aload 3 dX9_readText_81 rfl ?_
        have c4 := k.1
        replace k := k.2
        refine wp_callV (ci := 6) (y' := mX9_readValue) (st := []) [jR v70] rfl rfl rfl fX9_readValue kX9_58 nX9_readValue dX9_readText_83 (Nat.le_of_ble_eq_true rfl) c4 ?_
        refine jCall.mono k (fun o h83 k => ?_)
        obtain ⟨v83, e, k⟩ := k
        subst e
        show jWp (d + 1) mX9_readText 86 [(0, jR a0), (3, jI a3), (5, jI a5), (6, jR v70)] [jI v83] h83 Q
        refine wp_if_ne 90 dX9_readText_86 rfl (fun q => ?_) (fun q => ?_)
        · replace k := k.1 q
          refine wp_aload_n 0 dX9_readText_90 rfl ?_
          have c5 := k.1
          replace k := k.2
          refine wp_getI (ci := 6) (j := 5) rfl (by decide) gX9_44 dX9_readText_91 c5 rfl (fun q => ?_)
          have f6 := q
          replace k := k q
          refine wp_aload_n 0 dX9_readText_94 rfl ?_
          refine wp_getR (ci := 6) (j := 2) rfl (by decide) gX9_27 dX9_readText_95 c5 rfl ?_
          have c7 := k.1
          replace k := k.2
          refine wp_callV (ci := 5) (y' := mX7_count) (st := [jI (hI h83 605 a0)]) [] rfl rfl rfl fX7_count kX9_62 nX7_count dX9_readText_98 (Nat.le_of_ble_eq_true rfl) c7 ?_
          refine jCall.mono k (fun o h98 k => ?_)
          obtain ⟨v98, e, k⟩ := k
          subst e
          show jWp (d + 1) mX9_readText 101 [(0, jR a0), (3, jI a3), (5, jI a5), (6, jR v70)] [jI v98, jI (hI h83 605 a0)] h98 Q
          refine wp_icmp_lt 107 dX9_readText_101 rfl (fun q => ?_) (fun q => ?_)
          · replace k := k.1 q
            refine wp_aload_n 0 dX9_readText_107 rfl ?_
            have c8 := k.1
            replace k := k.2
            refine wp_getI (ci := 6) (j := 3) rfl (by decide) gX9_37 dX9_readText_108 c8 rfl (fun q => ?_)
            have f9 := q
            replace k := k q
            refine wp_if_ne 140 dX9_readText_111 rfl (fun q => ?_) (fun q => ?_)
            · replace k := k.1 q
              refine wp_sub [0, 1, 2] (ls' := [(0, jR a0), (3, jI a3), (5, jI a5)]) rfl ?_
              exact k
            · replace k := k.2 q
              refine wp_aload_n 0 dX9_readText_114 rfl ?_
              refine wp_getR (ci := 6) (j := 2) rfl (by decide) gX9_27 dX9_readText_115 c8 rfl ?_
              refine wp_aload_n 0 dX9_readText_118 rfl ?_
              refine wp_getI (ci := 6) (j := 5) rfl (by decide) gX9_44 dX9_readText_119 c8 rfl (fun q => ?_)
              have f10 := q
              replace k := k q
              have c11 := k.1
              replace k := k.2
              refine wp_callV (ci := 5) (y' := mX7_at) (st := []) [jI (hI h98 605 a0)] rfl rfl rfl fX7_at kX9_66 nX7_at dX9_readText_122 (Nat.le_of_ble_eq_true rfl) c11 ?_
              refine jCall.mono k (fun o h122 k => ?_)
              obtain ⟨v122, e, k⟩ := k
              subst e
              show jWp (d + 1) mX9_readText 125 [(0, jR a0), (3, jI a3), (5, jI a5), (6, jR v70)] [jI v122] h122 Q
              refine wp_bipush dX9_readText_125 ⟨by decide, by decide⟩ ?_
              refine wp_icmp_ne 140 dX9_readText_127 rfl (fun q => ?_) (fun q => ?_)
              · replace k := k.1 q
                refine wp_sub [0, 1, 2] (ls' := [(0, jR a0), (3, jI a3), (5, jI a5)]) rfl ?_
                exact k
              · replace k := k.2 q
                refine wp_aload_n 0 dX9_readText_130 rfl ?_
                refine wp_dup dX9_readText_131 rfl ?_
                have c12 := k.1
                replace k := k.2
                refine wp_getI (ci := 6) (j := 5) rfl (by decide) gX9_44 dX9_readText_132 c12 rfl (fun q => ?_)
                have f13 := q
                replace k := k q
                refine wp_iconst dX9_readText_135 ⟨by decide, by decide⟩ ?_
                have c14 := k.1
                replace k := k.2
                refine wp_iadd dX9_readText_136 c14 ?_
                refine wp_putI (ci := 6) (j := 5) rfl (by decide) gX9_44 dX9_readText_137 c12 (Or.inl rfl) rfl ?_
                refine wp_sub [0, 1, 2] (ls' := [(0, jR a0), (3, jI a3), (5, jI a5)]) rfl ?_
                exact k
          · replace k := k.2 q
            refine wp_goto 146 dX9_readText_104 rfl ?_
            refine wp_aload_n 0 dX9_readText_146 rfl ?_
            refine wp_iload_n 1 dX9_readText_147 rfl ?_
            have c15 := k.1
            replace k := k.2
            refine wp_callV (ci := 6) (y' := mX9_judgeTogether) (st := []) [jI a3] rfl rfl rfl fX9_judgeTogether kX9_70 nX9_judgeTogether dX9_readText_148 (Nat.le_of_ble_eq_true rfl) c15 ?_
            refine jCall.mono k (fun o h148_1 k => ?_)
            obtain ⟨e, k⟩ := k
            subst e
            show jWp (d + 1) mX9_readText 151 [(0, jR a0), (3, jI a3), (5, jI a5), (6, jR v70)] [] h148_1 Q
            exact wp_return dX9_readText_151 rfl k
        · replace k := k.2 q
          exact wp_return dX9_readText_89 rfl k
    · replace k := k.2 q
      refine wp_aload_n 0 dX9_readText_62 rfl ?_
      refine wp_callV (ci := 6) (y' := mX9_readBracketedAi) (st := []) [] rfl rfl rfl fX9_readBracketedAi kX9_51 nX9_readBracketedAi dX9_readText_63 (Nat.le_of_ble_eq_true rfl) c2 ?_
      refine jCall.mono k (fun o h63 k => ?_)
      obtain ⟨v63, e, k⟩ := k
      subst e
      show jWp (d + 1) mX9_readText 66 [(0, jR a0), (3, jI a3), (5, jI a5)] [jR v63] h63 Q
      refine wp_goto 73 dX9_readText_66 rfl ?_
      refine wp_astore [1, 2, 3, 0] (ls' := [(0, jR a0), (3, jI a3), (5, jI a5), (6, jR v63)]) dX9_readText_73 (by decide) rfl ?_
      refine wp_aload 3 dX9_readText_75 rfl ?_
      refine wp_ifnull 89 dX9_readText_77 rfl (fun q => ?_) (fun q => ?_)
      · replace k := k.1 q
        exact wp_return dX9_readText_89 rfl k
      · replace k := k.2 q
        refine wp_aload_n 0 dX9_readText_80 rfl ?_
        refine wp_aload 3 dX9_readText_81 rfl ?_
        have c16 := k.1
        replace k := k.2
        refine wp_callV (ci := 6) (y' := mX9_readValue) (st := []) [jR v63] rfl rfl rfl fX9_readValue kX9_58 nX9_readValue dX9_readText_83 (Nat.le_of_ble_eq_true rfl) c16 ?_
        refine jCall.mono k (fun o h83_1 k => ?_)
        obtain ⟨v83_1, e, k⟩ := k
        subst e
        show jWp (d + 1) mX9_readText 86 [(0, jR a0), (3, jI a3), (5, jI a5), (6, jR v63)] [jI v83_1] h83_1 Q
        refine wp_if_ne 90 dX9_readText_86 rfl (fun q => ?_) (fun q => ?_)
        · replace k := k.1 q
          refine wp_aload_n 0 dX9_readText_90 rfl ?_
          have c17 := k.1
          replace k := k.2
          refine wp_getI (ci := 6) (j := 5) rfl (by decide) gX9_44 dX9_readText_91 c17 rfl (fun q => ?_)
          have f18 := q
          replace k := k q
          refine wp_aload_n 0 dX9_readText_94 rfl ?_
          refine wp_getR (ci := 6) (j := 2) rfl (by decide) gX9_27 dX9_readText_95 c17 rfl ?_
          have c19 := k.1
          replace k := k.2
          refine wp_callV (ci := 5) (y' := mX7_count) (st := [jI (hI h83_1 605 a0)]) [] rfl rfl rfl fX7_count kX9_62 nX7_count dX9_readText_98 (Nat.le_of_ble_eq_true rfl) c19 ?_
          refine jCall.mono k (fun o h98_1 k => ?_)
          obtain ⟨v98_1, e, k⟩ := k
          subst e
          show jWp (d + 1) mX9_readText 101 [(0, jR a0), (3, jI a3), (5, jI a5), (6, jR v63)] [jI v98_1, jI (hI h83_1 605 a0)] h98_1 Q
          refine wp_icmp_lt 107 dX9_readText_101 rfl (fun q => ?_) (fun q => ?_)
          · replace k := k.1 q
            refine wp_aload_n 0 dX9_readText_107 rfl ?_
            have c20 := k.1
            replace k := k.2
            refine wp_getI (ci := 6) (j := 3) rfl (by decide) gX9_37 dX9_readText_108 c20 rfl (fun q => ?_)
            have f21 := q
            replace k := k q
            refine wp_if_ne 140 dX9_readText_111 rfl (fun q => ?_) (fun q => ?_)
            · replace k := k.1 q
              refine wp_sub [0, 1, 2] (ls' := [(0, jR a0), (3, jI a3), (5, jI a5)]) rfl ?_
              exact k
            · replace k := k.2 q
              refine wp_aload_n 0 dX9_readText_114 rfl ?_
              refine wp_getR (ci := 6) (j := 2) rfl (by decide) gX9_27 dX9_readText_115 c20 rfl ?_
              refine wp_aload_n 0 dX9_readText_118 rfl ?_
              refine wp_getI (ci := 6) (j := 5) rfl (by decide) gX9_44 dX9_readText_119 c20 rfl (fun q => ?_)
              have f22 := q
              replace k := k q
              have c23 := k.1
              replace k := k.2
              refine wp_callV (ci := 5) (y' := mX7_at) (st := []) [jI (hI h98_1 605 a0)] rfl rfl rfl fX7_at kX9_66 nX7_at dX9_readText_122 (Nat.le_of_ble_eq_true rfl) c23 ?_
              refine jCall.mono k (fun o h122_1 k => ?_)
              obtain ⟨v122_1, e, k⟩ := k
              subst e
              show jWp (d + 1) mX9_readText 125 [(0, jR a0), (3, jI a3), (5, jI a5), (6, jR v63)] [jI v122_1] h122_1 Q
              refine wp_bipush dX9_readText_125 ⟨by decide, by decide⟩ ?_
              refine wp_icmp_ne 140 dX9_readText_127 rfl (fun q => ?_) (fun q => ?_)
              · replace k := k.1 q
                refine wp_sub [0, 1, 2] (ls' := [(0, jR a0), (3, jI a3), (5, jI a5)]) rfl ?_
                exact k
              · replace k := k.2 q
                refine wp_aload_n 0 dX9_readText_130 rfl ?_
                refine wp_dup dX9_readText_131 rfl ?_
                have c24 := k.1
                replace k := k.2
                refine wp_getI (ci := 6) (j := 5) rfl (by decide) gX9_44 dX9_readText_132 c24 rfl (fun q => ?_)
                have f25 := q
                replace k := k q
                refine wp_iconst dX9_readText_135 ⟨by decide, by decide⟩ ?_
                have c26 := k.1
                replace k := k.2
                refine wp_iadd dX9_readText_136 c26 ?_
                refine wp_putI (ci := 6) (j := 5) rfl (by decide) gX9_44 dX9_readText_137 c24 (Or.inl rfl) rfl ?_
                refine wp_sub [0, 1, 2] (ls' := [(0, jR a0), (3, jI a3), (5, jI a5)]) rfl ?_
                exact k
          · replace k := k.2 q
            refine wp_goto 146 dX9_readText_104 rfl ?_
            refine wp_aload_n 0 dX9_readText_146 rfl ?_
            refine wp_iload_n 1 dX9_readText_147 rfl ?_
            have c27 := k.1
            replace k := k.2
            refine wp_callV (ci := 6) (y' := mX9_judgeTogether) (st := []) [jI a3] rfl rfl rfl fX9_judgeTogether kX9_70 nX9_judgeTogether dX9_readText_148 (Nat.le_of_ble_eq_true rfl) c27 ?_
            refine jCall.mono k (fun o h148_2 k => ?_)
            obtain ⟨e, k⟩ := k
            subst e
            show jWp (d + 1) mX9_readText 151 [(0, jR a0), (3, jI a3), (5, jI a5), (6, jR v63)] [] h148_2 Q
            exact wp_return dX9_readText_151 rfl k
        · replace k := k.2 q
          exact wp_return dX9_readText_89 rfl k
theorem bX9_readText_140 {d : Nat} {h : jH} {Q : jO → jH → Prop} {a0 : Nat} {a3 : Int} {a5 : Int} (k : jOK h → j32 a3 → j32 a5 → j32 (a5 + 1) ∧ jWp (d + 1) mX9_readText 48 [(0, jR a0), (3, jI a3), (5, jI (a5 + 1))] [] h Q) : jWp (d + 1) mX9_readText 140 [(0, jR a0), (3, jI a3), (5, jI a5)] [] h Q := by
  refine jw_ok (fun ok q => ?_)
  replace k := k ok (q _ (.tail _ (.head _))) (q _ (.tail _ (.tail _ (.head _))))
  have c1 := k.1
  replace k := k.2
  refine wp_iinc 2 [1, 2, 0] (ls' := [(0, jR a0), (3, jI a3), (5, jI (a5 + 1))]) dX9_readText_140 rfl c1 ⟨by decide, by decide⟩ (by decide) rfl ?_
  refine wp_goto 48 dX9_readText_143 rfl ?_
  exact k
theorem bX9_refuse {d : Nat} {h : jH} {Q : jO → jH → Prop} {a0 : Nat} {a1 : Int} {a2 : Int} (k : jOK h → j32 a1 → j32 a2 → hK h a0 = 7 ∧ Q (.inl (some (jI 0))) (sI (sI h 606 a0 a1) 607 a0 a2)) : jCall d mX9_refuse [jR a0, jI a1, jI a2] h Q := by
  refine jCall_of plX9 (Nat.le_of_ble_eq_true rfl) ?_
  show jWp d mX9_refuse 0 [(0, jR a0), (1, jI a1), (2, jI a2)] [] h Q
  refine jw_ok (fun ok q => ?_)
  replace k := k ok (q _ (.tail _ (.head _))) (q _ (.tail _ (.tail _ (.head _))))
  refine wp_aload_n 0 dX9_refuse_0 rfl ?_
  refine wp_iload_n 1 dX9_refuse_1 rfl ?_
  have c1 := k.1
  replace k := k.2
  refine wp_putI (ci := 6) (j := 6) rfl (by decide) gX9_30 dX9_refuse_2 c1 (Or.inl rfl) rfl ?_
  refine wp_aload_n 0 dX9_refuse_5 rfl ?_
  refine wp_iload_n 2 dX9_refuse_6 rfl ?_
  refine wp_putI (ci := 6) (j := 7) rfl (by decide) gX9_34 dX9_refuse_7 c1 (Or.inl rfl) rfl ?_
  refine wp_iconst dX9_refuse_10 ⟨by decide, by decide⟩ ?_
  exact wp_zreturn dX9_refuse_11 rfl (by decide) (by decide) k
theorem bX9_readBracketedAi {d : Nat} {h : jH} {Q : jO → jH → Prop} {a0 : Nat} (k : jOK h → hK h a0 = 7 ∧ (j32 (hI h 605 a0) → hK h (hR h 602 a0) = 6 ∧ jCall d mX7_at [jR (hR h 602 a0), jI (hI h 605 a0)] h (fun o h8 => ∃ v8, o = .inl (some (jI v8)) ∧ ((v8 = 40 → hK h8 a0 = 7 ∧ (j32 (hI h8 605 a0) → j32 ((hI h8 605 a0) + 1) ∧ (j32 (hI (sI h8 605 a0 ((hI h8 605 a0) + 1)) 605 a0) → hK h8 (hR h8 602 a0) = 6 ∧ jCall d mX7_count [jR (hR h8 602 a0)] (sI h8 605 a0 ((hI h8 605 a0) + 1)) (fun o h46 => ∃ v46, o = .inl (some (jI v46)) ∧ (((hI (sI h8 605 a0 ((hI h8 605 a0) + 1)) 605 a0) < v46 → hK h46 a0 = 7 ∧ (j32 (hI h46 605 a0) → jWp (d + 1) mX9_readBracketedAi 69 [(0, jR a0), (1, jI (hI h46 605 a0))] [] h46 Q)) ∧ (¬ ((hI (sI h8 605 a0 ((hI h8 605 a0) + 1)) 605 a0) < v46) → hK h46 a0 = 7 ∧ (j32 (hI h46 605 a0) → jCall d mX9_refuse [jR a0, jI 1, jI (hI h46 605 a0)] h46 (fun o h58 => ∃ v58, o = .inl (some (jI v58)) ∧ Q (.inl (some (jR 0))) h58)))))))) ∧ (¬ (v8 = 40) → hK h8 a0 = 7 ∧ (j32 (hI h8 605 a0) → jCall d mX9_refuse [jR a0, jI 1, jI (hI h8 605 a0)] h8 (fun o h22 => ∃ v22, o = .inl (some (jI v22)) ∧ Q (.inl (some (jR 0))) h22))))))) : jCall (d + 1) mX9_readBracketedAi [jR a0] h Q := by
  refine jCall_of plX9 (Nat.le_of_ble_eq_true rfl) ?_
  show jWp (d + 1) mX9_readBracketedAi 0 [(0, jR a0)] [] h Q
  refine jw_ok (fun ok q => ?_)
  replace k := k ok 
  refine wp_aload_n 0 dX9_readBracketedAi_0 rfl ?_
  have c1 := k.1
  replace k := k.2
  refine wp_getR (ci := 6) (j := 2) rfl (by decide) gX9_27 dX9_readBracketedAi_1 c1 rfl ?_
  refine wp_aload_n 0 dX9_readBracketedAi_4 rfl ?_
  refine wp_getI (ci := 6) (j := 5) rfl (by decide) gX9_44 dX9_readBracketedAi_5 c1 rfl (fun q => ?_)
  have f2 := q
  replace k := k q
  have c3 := k.1
  replace k := k.2
  refine wp_callV (ci := 5) (y' := mX7_at) (st := []) [jI (hI h 605 a0)] rfl rfl rfl fX7_at kX9_66 nX7_at dX9_readBracketedAi_8 (Nat.le_of_ble_eq_true rfl) c3 ?_
  refine jCall.mono k (fun o h8 k => ?_)
  obtain ⟨v8, e, k⟩ := k
  subst e
  show jWp (d + 1) mX9_readBracketedAi 11 [(0, jR a0)] [jI v8] h8 Q
  refine wp_bipush dX9_readBracketedAi_11 ⟨by decide, by decide⟩ ?_
  refine wp_icmp_eq 28 dX9_readBracketedAi_13 rfl (fun q => ?_) (fun q => ?_)
  · replace k := k.1 q
    refine wp_aload_n 0 dX9_readBracketedAi_28 rfl ?_
    refine wp_dup dX9_readBracketedAi_29 rfl ?_
    have c4 := k.1
    replace k := k.2
    refine wp_getI (ci := 6) (j := 5) rfl (by decide) gX9_44 dX9_readBracketedAi_30 c4 rfl (fun q => ?_)
    have f5 := q
    replace k := k q
    refine wp_iconst dX9_readBracketedAi_33 ⟨by decide, by decide⟩ ?_
    have c6 := k.1
    replace k := k.2
    refine wp_iadd dX9_readBracketedAi_34 c6 ?_
    refine wp_putI (ci := 6) (j := 5) rfl (by decide) gX9_44 dX9_readBracketedAi_35 c4 (Or.inl rfl) rfl ?_
    refine wp_aload_n 0 dX9_readBracketedAi_38 rfl ?_
    refine wp_getI (ci := 6) (j := 5) rfl (by decide) gX9_44 dX9_readBracketedAi_39 c4 rfl (fun q => ?_)
    have f7 := q
    replace k := k q
    refine wp_aload_n 0 dX9_readBracketedAi_42 rfl ?_
    refine wp_getR (ci := 6) (j := 2) rfl (by decide) gX9_27 dX9_readBracketedAi_43 c4 rfl ?_
    have c8 := k.1
    replace k := k.2
    refine wp_callV (ci := 5) (y' := mX7_count) (st := [jI (hI (sI h8 605 a0 ((hI h8 605 a0) + 1)) 605 a0)]) [] rfl rfl rfl fX7_count kX9_62 nX7_count dX9_readBracketedAi_46 (Nat.le_of_ble_eq_true rfl) c8 ?_
    refine jCall.mono k (fun o h46 k => ?_)
    obtain ⟨v46, e, k⟩ := k
    subst e
    show jWp (d + 1) mX9_readBracketedAi 49 [(0, jR a0)] [jI v46, jI (hI (sI h8 605 a0 ((hI h8 605 a0) + 1)) 605 a0)] h46 Q
    refine wp_icmp_lt 64 dX9_readBracketedAi_49 rfl (fun q => ?_) (fun q => ?_)
    · replace k := k.1 q
      refine wp_aload_n 0 dX9_readBracketedAi_64 rfl ?_
      have c9 := k.1
      replace k := k.2
      refine wp_getI (ci := 6) (j := 5) rfl (by decide) gX9_44 dX9_readBracketedAi_65 c9 rfl (fun q => ?_)
      have f10 := q
      replace k := k q
      refine wp_istore_n [1, 0] (ls' := [(0, jR a0), (1, jI (hI h46 605 a0))]) dX9_readBracketedAi_68 (by decide) rfl ?_
      exact k
    · replace k := k.2 q
      refine wp_aload_n 0 dX9_readBracketedAi_52 rfl ?_
      refine wp_iconst dX9_readBracketedAi_53 ⟨by decide, by decide⟩ ?_
      refine wp_aload_n 0 dX9_readBracketedAi_54 rfl ?_
      have c11 := k.1
      replace k := k.2
      refine wp_getI (ci := 6) (j := 5) rfl (by decide) gX9_44 dX9_readBracketedAi_55 c11 rfl (fun q => ?_)
      have f12 := q
      replace k := k q
      refine wp_callV (ci := 6) (y' := mX9_refuse) (st := []) [jI 1, jI (hI h46 605 a0)] rfl rfl rfl fX9_refuse kX9_74 nX9_refuse dX9_readBracketedAi_58 (Nat.le_of_ble_eq_true rfl) c11 ?_
      refine jCall.mono k (fun o h58 k => ?_)
      obtain ⟨v58, e, k⟩ := k
      subst e
      show jWp (d + 1) mX9_readBracketedAi 61 [(0, jR a0)] [jI v58] h58 Q
      refine wp_pop dX9_readBracketedAi_61 rfl ?_
      refine wp_null dX9_readBracketedAi_62 ?_
      exact wp_areturn dX9_readBracketedAi_63 rfl k
  · replace k := k.2 q
    refine wp_aload_n 0 dX9_readBracketedAi_16 rfl ?_
    refine wp_iconst dX9_readBracketedAi_17 ⟨by decide, by decide⟩ ?_
    refine wp_aload_n 0 dX9_readBracketedAi_18 rfl ?_
    have c13 := k.1
    replace k := k.2
    refine wp_getI (ci := 6) (j := 5) rfl (by decide) gX9_44 dX9_readBracketedAi_19 c13 rfl (fun q => ?_)
    have f14 := q
    replace k := k q
    refine wp_callV (ci := 6) (y' := mX9_refuse) (st := []) [jI 1, jI (hI h8 605 a0)] rfl rfl rfl fX9_refuse kX9_74 nX9_refuse dX9_readBracketedAi_22 (Nat.le_of_ble_eq_true rfl) c13 ?_
    refine jCall.mono k (fun o h22 k => ?_)
    obtain ⟨v22, e, k⟩ := k
    subst e
    show jWp (d + 1) mX9_readBracketedAi 25 [(0, jR a0)] [jI v22] h22 Q
    refine wp_pop dX9_readBracketedAi_25 rfl ?_
    refine wp_null dX9_readBracketedAi_26 ?_
    exact wp_areturn dX9_readBracketedAi_27 rfl k
theorem bX9_readBracketedAi_69 {d : Nat} {h : jH} {Q : jO → jH → Prop} {a0 : Nat} {a1 : Int} (k : jOK h → j32 a1 → hK h a0 = 7 ∧ hK h (hR h 602 a0) = 6 ∧ jCall d mX7_count [jR (hR h 602 a0)] h (fun o h74 => ∃ v74, o = .inl (some (jI v74)) ∧ ((v74 ≤ a1 → hK h74 a0 = 7 ∧ (j32 (hI h74 605 a0) → j32 (a1 - (hI h74 605 a0)) ∧ jCall d mX9_newElement [jR a0, jI (a1 - (hI h74 605 a0))] h74 (fun o h106 => ∃ v106, o = .inl (some (jR v106)) ∧ ((v106 ≠ 0 → hK h106 a0 = 7 ∧ (j32 (hI (sI h106 605 a0 a1) 605 a0) → hK h106 (hR h106 602 a0) = 6 ∧ jCall d mX7_count [jR (hR h106 602 a0)] (sI h106 605 a0 a1) (fun o h129 => ∃ v129, o = .inl (some (jI v129)) ∧ (((hI (sI h106 605 a0 a1) 605 a0) < v129 → hK h129 a0 = 7 ∧ (j32 (hI h129 605 a0) → j32 ((hI h129 605 a0) + 1) ∧ Q (.inl (some (jR v106))) (sI h129 605 a0 ((hI h129 605 a0) + 1)))) ∧ (¬ ((hI (sI h106 605 a0 a1) 605 a0) < v129) → hK h129 a0 = 7 ∧ (j32 (hI h129 605 a0) → jCall d mX9_refuse [jR a0, jI 1, jI (hI h129 605 a0)] h129 (fun o h141 => ∃ v141, o = .inl (some (jI v141)) ∧ Q (.inl (some (jR 0))) h141))))))) ∧ (¬ (v106 ≠ 0) → Q (.inl (some (jR 0))) h106))))) ∧ (¬ (v74 ≤ a1) → hK h74 a0 = 7 ∧ hK h74 (hR h74 602 a0) = 6 ∧ jCall d mX7_at [jR (hR h74 602 a0), jI a1] h74 (fun o h85 => ∃ v85, o = .inl (some (jI v85)) ∧ ((v85 = 41 → hK h85 a0 = 7 ∧ (j32 (hI h85 605 a0) → j32 (a1 - (hI h85 605 a0)) ∧ jCall d mX9_newElement [jR a0, jI (a1 - (hI h85 605 a0))] h85 (fun o h106_1 => ∃ v106_1, o = .inl (some (jR v106_1)) ∧ ((v106_1 ≠ 0 → hK h106_1 a0 = 7 ∧ (j32 (hI (sI h106_1 605 a0 a1) 605 a0) → hK h106_1 (hR h106_1 602 a0) = 6 ∧ jCall d mX7_count [jR (hR h106_1 602 a0)] (sI h106_1 605 a0 a1) (fun o h129_1 => ∃ v129_1, o = .inl (some (jI v129_1)) ∧ (((hI (sI h106_1 605 a0 a1) 605 a0) < v129_1 → hK h129_1 a0 = 7 ∧ (j32 (hI h129_1 605 a0) → j32 ((hI h129_1 605 a0) + 1) ∧ Q (.inl (some (jR v106_1))) (sI h129_1 605 a0 ((hI h129_1 605 a0) + 1)))) ∧ (¬ ((hI (sI h106_1 605 a0 a1) 605 a0) < v129_1) → hK h129_1 a0 = 7 ∧ (j32 (hI h129_1 605 a0) → jCall d mX9_refuse [jR a0, jI 1, jI (hI h129_1 605 a0)] h129_1 (fun o h141_1 => ∃ v141_1, o = .inl (some (jI v141_1)) ∧ Q (.inl (some (jR 0))) h141_1))))))) ∧ (¬ (v106_1 ≠ 0) → Q (.inl (some (jR 0))) h106_1))))) ∧ (¬ (v85 = 41) → j32 (a1 + 1) ∧ jWp (d + 1) mX9_readBracketedAi 69 [(0, jR a0), (1, jI (a1 + 1))] [] h85 Q))))))) : jWp (d + 1) mX9_readBracketedAi 69 [(0, jR a0), (1, jI a1)] [] h Q := by
  refine jw_ok (fun ok q => ?_)
  replace k := k ok (q _ (.tail _ (.head _)))
  refine wp_iload_n 1 dX9_readBracketedAi_69 rfl ?_
  refine wp_aload_n 0 dX9_readBracketedAi_70 rfl ?_
  have c1 := k.1
  replace k := k.2
  refine wp_getR (ci := 6) (j := 2) rfl (by decide) gX9_27 dX9_readBracketedAi_71 c1 rfl ?_
  have c2 := k.1
  replace k := k.2
  refine wp_callV (ci := 5) (y' := mX7_count) (st := [jI a1]) [] rfl rfl rfl fX7_count kX9_62 nX7_count dX9_readBracketedAi_74 (Nat.le_of_ble_eq_true rfl) c2 ?_
  refine jCall.mono k (fun o h74 k => ?_)
  obtain ⟨v74, e, k⟩ := k
  subst e
  show jWp (d + 1) mX9_readBracketedAi 77 [(0, jR a0), (1, jI a1)] [jI v74, jI a1] h74 Q
  refine wp_icmp_ge 99 dX9_readBracketedAi_77 rfl (fun q => ?_) (fun q => ?_)
  · replace k := k.1 q
    refine wp_aload_n 0 dX9_readBracketedAi_99 rfl ?_
    refine wp_iload_n 1 dX9_readBracketedAi_100 rfl ?_
    refine wp_aload_n 0 dX9_readBracketedAi_101 rfl ?_
    have c3 := k.1
    replace k := k.2
    refine wp_getI (ci := 6) (j := 5) rfl (by decide) gX9_44 dX9_readBracketedAi_102 c3 rfl (fun q => ?_)
    have f4 := q
    replace k := k q
    have c5 := k.1
    replace k := k.2
    refine wp_isub dX9_readBracketedAi_105 c5 ?_
    refine wp_callV (ci := 6) (y' := mX9_newElement) (st := []) [jI (a1 - (hI h74 605 a0))] rfl rfl rfl fX9_newElement kX9_78 nX9_newElement dX9_readBracketedAi_106 (Nat.le_of_ble_eq_true rfl) c3 ?_
    refine jCall.mono k (fun o h106 k => ?_)
    obtain ⟨v106, e, k⟩ := k
    subst e
    show jWp (d + 1) mX9_readBracketedAi 109 [(0, jR a0), (1, jI a1)] [jR v106] h106 Q
    refine wp_astore_n [1, 2, 0] (ls' := [(0, jR a0), (1, jI a1), (2, jR v106)]) dX9_readBracketedAi_109 (by decide) rfl ?_
    refine wp_aload_n 2 dX9_readBracketedAi_110 rfl ?_
    refine wp_ifnonnull 116 dX9_readBracketedAi_111 rfl (fun q => ?_) (fun q => ?_)
    · replace k := k.1 q
      refine wp_aload_n 0 dX9_readBracketedAi_116 rfl ?_
      refine wp_iload_n 1 dX9_readBracketedAi_117 rfl ?_
      have c6 := k.1
      replace k := k.2
      refine wp_putI (ci := 6) (j := 5) rfl (by decide) gX9_44 dX9_readBracketedAi_118 c6 (Or.inl rfl) rfl ?_
      refine wp_aload_n 0 dX9_readBracketedAi_121 rfl ?_
      refine wp_getI (ci := 6) (j := 5) rfl (by decide) gX9_44 dX9_readBracketedAi_122 c6 rfl (fun q => ?_)
      have f7 := q
      replace k := k q
      refine wp_aload_n 0 dX9_readBracketedAi_125 rfl ?_
      refine wp_getR (ci := 6) (j := 2) rfl (by decide) gX9_27 dX9_readBracketedAi_126 c6 rfl ?_
      have c8 := k.1
      replace k := k.2
      refine wp_callV (ci := 5) (y' := mX7_count) (st := [jI (hI (sI h106 605 a0 a1) 605 a0)]) [] rfl rfl rfl fX7_count kX9_62 nX7_count dX9_readBracketedAi_129 (Nat.le_of_ble_eq_true rfl) c8 ?_
      refine jCall.mono k (fun o h129 k => ?_)
      obtain ⟨v129, e, k⟩ := k
      subst e
      show jWp (d + 1) mX9_readBracketedAi 132 [(0, jR a0), (1, jI a1), (2, jR v106)] [jI v129, jI (hI (sI h106 605 a0 a1) 605 a0)] h129 Q
      refine wp_icmp_lt 147 dX9_readBracketedAi_132 rfl (fun q => ?_) (fun q => ?_)
      · replace k := k.1 q
        refine wp_aload_n 0 dX9_readBracketedAi_147 rfl ?_
        refine wp_dup dX9_readBracketedAi_148 rfl ?_
        have c9 := k.1
        replace k := k.2
        refine wp_getI (ci := 6) (j := 5) rfl (by decide) gX9_44 dX9_readBracketedAi_149 c9 rfl (fun q => ?_)
        have f10 := q
        replace k := k q
        refine wp_iconst dX9_readBracketedAi_152 ⟨by decide, by decide⟩ ?_
        have c11 := k.1
        replace k := k.2
        refine wp_iadd dX9_readBracketedAi_153 c11 ?_
        refine wp_putI (ci := 6) (j := 5) rfl (by decide) gX9_44 dX9_readBracketedAi_154 c9 (Or.inl rfl) rfl ?_
        refine wp_aload_n 2 dX9_readBracketedAi_157 rfl ?_
        exact wp_areturn dX9_readBracketedAi_158 rfl k
      · replace k := k.2 q
        refine wp_aload_n 0 dX9_readBracketedAi_135 rfl ?_
        refine wp_iconst dX9_readBracketedAi_136 ⟨by decide, by decide⟩ ?_
        refine wp_aload_n 0 dX9_readBracketedAi_137 rfl ?_
        have c12 := k.1
        replace k := k.2
        refine wp_getI (ci := 6) (j := 5) rfl (by decide) gX9_44 dX9_readBracketedAi_138 c12 rfl (fun q => ?_)
        have f13 := q
        replace k := k q
        refine wp_callV (ci := 6) (y' := mX9_refuse) (st := []) [jI 1, jI (hI h129 605 a0)] rfl rfl rfl fX9_refuse kX9_74 nX9_refuse dX9_readBracketedAi_141 (Nat.le_of_ble_eq_true rfl) c12 ?_
        refine jCall.mono k (fun o h141 k => ?_)
        obtain ⟨v141, e, k⟩ := k
        subst e
        show jWp (d + 1) mX9_readBracketedAi 144 [(0, jR a0), (1, jI a1), (2, jR v106)] [jI v141] h141 Q
        refine wp_pop dX9_readBracketedAi_144 rfl ?_
        refine wp_null dX9_readBracketedAi_145 ?_
        exact wp_areturn dX9_readBracketedAi_146 rfl k
    · replace k := k.2 q
      refine wp_null dX9_readBracketedAi_114 ?_
      exact wp_areturn dX9_readBracketedAi_115 rfl k
  · replace k := k.2 q
    refine wp_aload_n 0 dX9_readBracketedAi_80 rfl ?_
    have c14 := k.1
    replace k := k.2
    refine wp_getR (ci := 6) (j := 2) rfl (by decide) gX9_27 dX9_readBracketedAi_81 c14 rfl ?_
    refine wp_iload_n 1 dX9_readBracketedAi_84 rfl ?_
    have c15 := k.1
    replace k := k.2
    refine wp_callV (ci := 5) (y' := mX7_at) (st := []) [jI a1] rfl rfl rfl fX7_at kX9_66 nX7_at dX9_readBracketedAi_85 (Nat.le_of_ble_eq_true rfl) c15 ?_
    refine jCall.mono k (fun o h85 k => ?_)
    obtain ⟨v85, e, k⟩ := k
    subst e
    show jWp (d + 1) mX9_readBracketedAi 88 [(0, jR a0), (1, jI a1)] [jI v85] h85 Q
    refine wp_bipush dX9_readBracketedAi_88 ⟨by decide, by decide⟩ ?_
    refine wp_icmp_eq 99 dX9_readBracketedAi_90 rfl (fun q => ?_) (fun q => ?_)
    · replace k := k.1 q
      refine wp_aload_n 0 dX9_readBracketedAi_99 rfl ?_
      refine wp_iload_n 1 dX9_readBracketedAi_100 rfl ?_
      refine wp_aload_n 0 dX9_readBracketedAi_101 rfl ?_
      have c16 := k.1
      replace k := k.2
      refine wp_getI (ci := 6) (j := 5) rfl (by decide) gX9_44 dX9_readBracketedAi_102 c16 rfl (fun q => ?_)
      have f17 := q
      replace k := k q
      have c18 := k.1
      replace k := k.2
      refine wp_isub dX9_readBracketedAi_105 c18 ?_
      refine wp_callV (ci := 6) (y' := mX9_newElement) (st := []) [jI (a1 - (hI h85 605 a0))] rfl rfl rfl fX9_newElement kX9_78 nX9_newElement dX9_readBracketedAi_106 (Nat.le_of_ble_eq_true rfl) c16 ?_
      refine jCall.mono k (fun o h106_1 k => ?_)
      obtain ⟨v106_1, e, k⟩ := k
      subst e
      show jWp (d + 1) mX9_readBracketedAi 109 [(0, jR a0), (1, jI a1)] [jR v106_1] h106_1 Q
      refine wp_astore_n [1, 2, 0] (ls' := [(0, jR a0), (1, jI a1), (2, jR v106_1)]) dX9_readBracketedAi_109 (by decide) rfl ?_
      refine wp_aload_n 2 dX9_readBracketedAi_110 rfl ?_
      refine wp_ifnonnull 116 dX9_readBracketedAi_111 rfl (fun q => ?_) (fun q => ?_)
      · replace k := k.1 q
        refine wp_aload_n 0 dX9_readBracketedAi_116 rfl ?_
        refine wp_iload_n 1 dX9_readBracketedAi_117 rfl ?_
        have c19 := k.1
        replace k := k.2
        refine wp_putI (ci := 6) (j := 5) rfl (by decide) gX9_44 dX9_readBracketedAi_118 c19 (Or.inl rfl) rfl ?_
        refine wp_aload_n 0 dX9_readBracketedAi_121 rfl ?_
        refine wp_getI (ci := 6) (j := 5) rfl (by decide) gX9_44 dX9_readBracketedAi_122 c19 rfl (fun q => ?_)
        have f20 := q
        replace k := k q
        refine wp_aload_n 0 dX9_readBracketedAi_125 rfl ?_
        refine wp_getR (ci := 6) (j := 2) rfl (by decide) gX9_27 dX9_readBracketedAi_126 c19 rfl ?_
        have c21 := k.1
        replace k := k.2
        refine wp_callV (ci := 5) (y' := mX7_count) (st := [jI (hI (sI h106_1 605 a0 a1) 605 a0)]) [] rfl rfl rfl fX7_count kX9_62 nX7_count dX9_readBracketedAi_129 (Nat.le_of_ble_eq_true rfl) c21 ?_
        refine jCall.mono k (fun o h129_1 k => ?_)
        obtain ⟨v129_1, e, k⟩ := k
        subst e
        show jWp (d + 1) mX9_readBracketedAi 132 [(0, jR a0), (1, jI a1), (2, jR v106_1)] [jI v129_1, jI (hI (sI h106_1 605 a0 a1) 605 a0)] h129_1 Q
        refine wp_icmp_lt 147 dX9_readBracketedAi_132 rfl (fun q => ?_) (fun q => ?_)
        · replace k := k.1 q
          refine wp_aload_n 0 dX9_readBracketedAi_147 rfl ?_
          refine wp_dup dX9_readBracketedAi_148 rfl ?_
          have c22 := k.1
          replace k := k.2
          refine wp_getI (ci := 6) (j := 5) rfl (by decide) gX9_44 dX9_readBracketedAi_149 c22 rfl (fun q => ?_)
          have f23 := q
          replace k := k q
          refine wp_iconst dX9_readBracketedAi_152 ⟨by decide, by decide⟩ ?_
          have c24 := k.1
          replace k := k.2
          refine wp_iadd dX9_readBracketedAi_153 c24 ?_
          refine wp_putI (ci := 6) (j := 5) rfl (by decide) gX9_44 dX9_readBracketedAi_154 c22 (Or.inl rfl) rfl ?_
          refine wp_aload_n 2 dX9_readBracketedAi_157 rfl ?_
          exact wp_areturn dX9_readBracketedAi_158 rfl k
        · replace k := k.2 q
          refine wp_aload_n 0 dX9_readBracketedAi_135 rfl ?_
          refine wp_iconst dX9_readBracketedAi_136 ⟨by decide, by decide⟩ ?_
          refine wp_aload_n 0 dX9_readBracketedAi_137 rfl ?_
          have c25 := k.1
          replace k := k.2
          refine wp_getI (ci := 6) (j := 5) rfl (by decide) gX9_44 dX9_readBracketedAi_138 c25 rfl (fun q => ?_)
          have f26 := q
          replace k := k q
          refine wp_callV (ci := 6) (y' := mX9_refuse) (st := []) [jI 1, jI (hI h129_1 605 a0)] rfl rfl rfl fX9_refuse kX9_74 nX9_refuse dX9_readBracketedAi_141 (Nat.le_of_ble_eq_true rfl) c25 ?_
          refine jCall.mono k (fun o h141_1 k => ?_)
          obtain ⟨v141_1, e, k⟩ := k
          subst e
          show jWp (d + 1) mX9_readBracketedAi 144 [(0, jR a0), (1, jI a1), (2, jR v106_1)] [jI v141_1] h141_1 Q
          refine wp_pop dX9_readBracketedAi_144 rfl ?_
          refine wp_null dX9_readBracketedAi_145 ?_
          exact wp_areturn dX9_readBracketedAi_146 rfl k
      · replace k := k.2 q
        refine wp_null dX9_readBracketedAi_114 ?_
        exact wp_areturn dX9_readBracketedAi_115 rfl k
    · replace k := k.2 q
      have c27 := k.1
      replace k := k.2
      refine wp_iinc 1 [1, 0] (ls' := [(0, jR a0), (1, jI (a1 + 1))]) dX9_readBracketedAi_93 rfl c27 ⟨by decide, by decide⟩ (by decide) rfl ?_
      refine wp_goto 69 dX9_readBracketedAi_96 rfl ?_
      exact k
theorem bX9_readPlainAi {d : Nat} {h : jH} {Q : jO → jH → Prop} {a0 : Nat} (k : jOK h → hK h a0 = 7 ∧ (j32 (hI h 605 a0) → hK h (hR h 602 a0) = 6 ∧ jCall d mX7_count [jR (hR h 602 a0)] h (fun o h8 => ∃ v8, o = .inl (some (jI v8)) ∧ (((hI h 605 a0) < v8 → jWp (d + 1) mX9_readPlainAi 28 [(0, jR a0), (1, jI 2)] [] h8 Q) ∧ (¬ ((hI h 605 a0) < v8) → hK h8 a0 = 7 ∧ (j32 (hI h8 605 a0) → jCall d mX9_refuse [jR a0, jI 1, jI (hI h8 605 a0)] h8 (fun o h20 => ∃ v20, o = .inl (some (jI v20)) ∧ Q (.inl (some (jR 0))) h20))))))) : jCall (d + 1) mX9_readPlainAi [jR a0] h Q := by
  refine jCall_of plX9 (Nat.le_of_ble_eq_true rfl) ?_
  show jWp (d + 1) mX9_readPlainAi 0 [(0, jR a0)] [] h Q
  refine jw_ok (fun ok q => ?_)
  replace k := k ok 
  refine wp_aload_n 0 dX9_readPlainAi_0 rfl ?_
  have c1 := k.1
  replace k := k.2
  refine wp_getI (ci := 6) (j := 5) rfl (by decide) gX9_44 dX9_readPlainAi_1 c1 rfl (fun q => ?_)
  have f2 := q
  replace k := k q
  refine wp_aload_n 0 dX9_readPlainAi_4 rfl ?_
  refine wp_getR (ci := 6) (j := 2) rfl (by decide) gX9_27 dX9_readPlainAi_5 c1 rfl ?_
  have c3 := k.1
  replace k := k.2
  refine wp_callV (ci := 5) (y' := mX7_count) (st := [jI (hI h 605 a0)]) [] rfl rfl rfl fX7_count kX9_62 nX7_count dX9_readPlainAi_8 (Nat.le_of_ble_eq_true rfl) c3 ?_
  refine jCall.mono k (fun o h8 k => ?_)
  obtain ⟨v8, e, k⟩ := k
  subst e
  show jWp (d + 1) mX9_readPlainAi 11 [(0, jR a0)] [jI v8, jI (hI h 605 a0)] h8 Q
  refine wp_icmp_lt 26 dX9_readPlainAi_11 rfl (fun q => ?_) (fun q => ?_)
  · replace k := k.1 q
    refine wp_iconst dX9_readPlainAi_26 ⟨by decide, by decide⟩ ?_
    refine wp_istore_n [1, 0] (ls' := [(0, jR a0), (1, jI 2)]) dX9_readPlainAi_27 (by decide) rfl ?_
    exact k
  · replace k := k.2 q
    refine wp_aload_n 0 dX9_readPlainAi_14 rfl ?_
    refine wp_iconst dX9_readPlainAi_15 ⟨by decide, by decide⟩ ?_
    refine wp_aload_n 0 dX9_readPlainAi_16 rfl ?_
    have c4 := k.1
    replace k := k.2
    refine wp_getI (ci := 6) (j := 5) rfl (by decide) gX9_44 dX9_readPlainAi_17 c4 rfl (fun q => ?_)
    have f5 := q
    replace k := k q
    refine wp_callV (ci := 6) (y' := mX9_refuse) (st := []) [jI 1, jI (hI h8 605 a0)] rfl rfl rfl fX9_refuse kX9_74 nX9_refuse dX9_readPlainAi_20 (Nat.le_of_ble_eq_true rfl) c4 ?_
    refine jCall.mono k (fun o h20 k => ?_)
    obtain ⟨v20, e, k⟩ := k
    subst e
    show jWp (d + 1) mX9_readPlainAi 23 [(0, jR a0)] [jI v20] h20 Q
    refine wp_pop dX9_readPlainAi_23 rfl ?_
    refine wp_null dX9_readPlainAi_24 ?_
    exact wp_areturn dX9_readPlainAi_25 rfl k
theorem bX9_readPlainAi_28 {d : Nat} {h : jH} {Q : jO → jH → Prop} {a0 : Nat} {a1 : Int} (k : jOK h → j32 a1 → ((4 ≤ a1 → hK h a0 = 7 ∧ jCall d mX9_newElement [jR a0, jI a1] h (fun o h50 => ∃ v50, o = .inl (some (jR v50)) ∧ ((v50 = 0 → Q (.inl (some (jR v50))) h50) ∧ (¬ (v50 = 0) → hK h50 a0 = 7 ∧ (j32 (hI h50 605 a0) → j32 ((hI h50 605 a0) + a1) ∧ Q (.inl (some (jR v50))) (sI h50 605 a0 ((hI h50 605 a0) + a1))))))) ∧ (¬ (4 ≤ a1) → hK h a0 = 7 ∧ jCall d mX9_lineAt [jR a0, jI a1] h (fun o h35 => ∃ v35, o = .inl (some (jI v35)) ∧ ((v35 ≠ (-1) → hK h35 a0 = 7 ∧ jCall d mX9_newElement [jR a0, jI a1] h35 (fun o h50_1 => ∃ v50_1, o = .inl (some (jR v50_1)) ∧ ((v50_1 = 0 → Q (.inl (some (jR v50_1))) h50_1) ∧ (¬ (v50_1 = 0) → hK h50_1 a0 = 7 ∧ (j32 (hI h50_1 605 a0) → j32 ((hI h50_1 605 a0) + a1) ∧ Q (.inl (some (jR v50_1))) (sI h50_1 605 a0 ((hI h50_1 605 a0) + a1))))))) ∧ (v35 = (-1) → j32 (a1 + 1) ∧ jWp (d + 1) mX9_readPlainAi 28 [(0, jR a0), (1, jI (a1 + 1))] [] h35 Q)))))) : jWp (d + 1) mX9_readPlainAi 28 [(0, jR a0), (1, jI a1)] [] h Q := by
  refine jw_ok (fun ok q => ?_)
  replace k := k ok (q _ (.tail _ (.head _)))
  refine wp_iload_n 1 dX9_readPlainAi_28 rfl ?_
  refine wp_iconst dX9_readPlainAi_29 ⟨by decide, by decide⟩ ?_
  refine wp_icmp_ge 48 dX9_readPlainAi_30 rfl (fun q => ?_) (fun q => ?_)
  · replace k := k.1 q
    refine wp_aload_n 0 dX9_readPlainAi_48 rfl ?_
    refine wp_iload_n 1 dX9_readPlainAi_49 rfl ?_
    have c1 := k.1
    replace k := k.2
    refine wp_callV (ci := 6) (y' := mX9_newElement) (st := []) [jI a1] rfl rfl rfl fX9_newElement kX9_78 nX9_newElement dX9_readPlainAi_50 (Nat.le_of_ble_eq_true rfl) c1 ?_
    refine jCall.mono k (fun o h50 k => ?_)
    obtain ⟨v50, e, k⟩ := k
    subst e
    show jWp (d + 1) mX9_readPlainAi 53 [(0, jR a0), (1, jI a1)] [jR v50] h50 Q
    refine wp_astore_n [1, 2, 0] (ls' := [(0, jR a0), (1, jI a1), (2, jR v50)]) dX9_readPlainAi_53 (by decide) rfl ?_
    refine wp_aload_n 2 dX9_readPlainAi_54 rfl ?_
    refine wp_ifnull 68 dX9_readPlainAi_55 rfl (fun q => ?_) (fun q => ?_)
    · replace k := k.1 q
      refine wp_aload_n 2 dX9_readPlainAi_68 rfl ?_
      exact wp_areturn dX9_readPlainAi_69 rfl k
    · replace k := k.2 q
      refine wp_aload_n 0 dX9_readPlainAi_58 rfl ?_
      refine wp_dup dX9_readPlainAi_59 rfl ?_
      have c2 := k.1
      replace k := k.2
      refine wp_getI (ci := 6) (j := 5) rfl (by decide) gX9_44 dX9_readPlainAi_60 c2 rfl (fun q => ?_)
      have f3 := q
      replace k := k q
      refine wp_iload_n 1 dX9_readPlainAi_63 rfl ?_
      have c4 := k.1
      replace k := k.2
      refine wp_iadd dX9_readPlainAi_64 c4 ?_
      refine wp_putI (ci := 6) (j := 5) rfl (by decide) gX9_44 dX9_readPlainAi_65 c2 (Or.inl rfl) rfl ?_
      refine wp_aload_n 2 dX9_readPlainAi_68 rfl ?_
      exact wp_areturn dX9_readPlainAi_69 rfl k
  · replace k := k.2 q
    refine wp_aload_n 0 dX9_readPlainAi_33 rfl ?_
    refine wp_iload_n 1 dX9_readPlainAi_34 rfl ?_
    have c5 := k.1
    replace k := k.2
    refine wp_callV (ci := 6) (y' := mX9_lineAt) (st := []) [jI a1] rfl rfl rfl fX9_lineAt kX9_82 nX9_lineAt dX9_readPlainAi_35 (Nat.le_of_ble_eq_true rfl) c5 ?_
    refine jCall.mono k (fun o h35 k => ?_)
    obtain ⟨v35, e, k⟩ := k
    subst e
    show jWp (d + 1) mX9_readPlainAi 38 [(0, jR a0), (1, jI a1)] [jI v35] h35 Q
    refine wp_iconst dX9_readPlainAi_38 ⟨by decide, by decide⟩ ?_
    refine wp_icmp_ne 48 dX9_readPlainAi_39 rfl (fun q => ?_) (fun q => ?_)
    · replace k := k.1 q
      refine wp_aload_n 0 dX9_readPlainAi_48 rfl ?_
      refine wp_iload_n 1 dX9_readPlainAi_49 rfl ?_
      have c6 := k.1
      replace k := k.2
      refine wp_callV (ci := 6) (y' := mX9_newElement) (st := []) [jI a1] rfl rfl rfl fX9_newElement kX9_78 nX9_newElement dX9_readPlainAi_50 (Nat.le_of_ble_eq_true rfl) c6 ?_
      refine jCall.mono k (fun o h50_1 k => ?_)
      obtain ⟨v50_1, e, k⟩ := k
      subst e
      show jWp (d + 1) mX9_readPlainAi 53 [(0, jR a0), (1, jI a1)] [jR v50_1] h50_1 Q
      refine wp_astore_n [1, 2, 0] (ls' := [(0, jR a0), (1, jI a1), (2, jR v50_1)]) dX9_readPlainAi_53 (by decide) rfl ?_
      refine wp_aload_n 2 dX9_readPlainAi_54 rfl ?_
      refine wp_ifnull 68 dX9_readPlainAi_55 rfl (fun q => ?_) (fun q => ?_)
      · replace k := k.1 q
        refine wp_aload_n 2 dX9_readPlainAi_68 rfl ?_
        exact wp_areturn dX9_readPlainAi_69 rfl k
      · replace k := k.2 q
        refine wp_aload_n 0 dX9_readPlainAi_58 rfl ?_
        refine wp_dup dX9_readPlainAi_59 rfl ?_
        have c7 := k.1
        replace k := k.2
        refine wp_getI (ci := 6) (j := 5) rfl (by decide) gX9_44 dX9_readPlainAi_60 c7 rfl (fun q => ?_)
        have f8 := q
        replace k := k q
        refine wp_iload_n 1 dX9_readPlainAi_63 rfl ?_
        have c9 := k.1
        replace k := k.2
        refine wp_iadd dX9_readPlainAi_64 c9 ?_
        refine wp_putI (ci := 6) (j := 5) rfl (by decide) gX9_44 dX9_readPlainAi_65 c7 (Or.inl rfl) rfl ?_
        refine wp_aload_n 2 dX9_readPlainAi_68 rfl ?_
        exact wp_areturn dX9_readPlainAi_69 rfl k
    · replace k := k.2 q
      have c10 := k.1
      replace k := k.2
      refine wp_iinc 1 [1, 0] (ls' := [(0, jR a0), (1, jI (a1 + 1))]) dX9_readPlainAi_42 rfl c10 ⟨by decide, by decide⟩ (by decide) rfl ?_
      refine wp_goto 28 dX9_readPlainAi_45 rfl ?_
      exact k
theorem bX9_lineAt {d : Nat} {h : jH} {Q : jO → jH → Prop} {a0 : Nat} {a1 : Int} (k : jOK h → j32 a1 → ((4 < a1 → Q (.inl (some (jI (-1)))) h) ∧ (¬ (4 < a1) → hK h a0 = 7 ∧ (j32 (hI h 605 a0) → hK h (hR h 602 a0) = 6 ∧ jCall d mX7_areDigits [jR (hR h 602 a0), jI (hI h 605 a0), jI a1] h (fun o h14 => ∃ v14, o = .inl (some (jI v14)) ∧ ((v14 ≠ 0 → hK h14 a0 = 7 ∧ (j32 (hI h14 605 a0) → hK h14 (hR h14 602 a0) = 6 ∧ jCall d mX7_digitsAt [jR (hR h14 602 a0), jI (hI h14 605 a0), jI a1] h14 (fun o h31 => ∃ v31, o = .inl (some (jL v31)) ∧ j32 (v31) ∧ jCall d mX8_lineOf [jI v31, jI a1] h31 (fun o h36 => ∃ v36, o = .inl (some (jI v36)) ∧ Q (.inl (some (jI v36))) h36)))) ∧ (v14 = 0 → Q (.inl (some (jI (-1)))) h14))))))) : jCall (d + 1) mX9_lineAt [jR a0, jI a1] h Q := by
  refine jCall_of plX9 (Nat.le_of_ble_eq_true rfl) ?_
  show jWp (d + 1) mX9_lineAt 0 [(0, jR a0), (1, jI a1)] [] h Q
  refine jw_ok (fun ok q => ?_)
  replace k := k ok (q _ (.tail _ (.head _)))
  refine wp_iload_n 1 dX9_lineAt_0 rfl ?_
  refine wp_iconst dX9_lineAt_1 ⟨by decide, by decide⟩ ?_
  refine wp_icmp_gt 20 dX9_lineAt_2 rfl (fun q => ?_) (fun q => ?_)
  · replace k := k.1 q
    refine wp_iconst dX9_lineAt_20 ⟨by decide, by decide⟩ ?_
    exact wp_iret dX9_lineAt_21 rfl k
  · replace k := k.2 q
    refine wp_aload_n 0 dX9_lineAt_5 rfl ?_
    have c1 := k.1
    replace k := k.2
    refine wp_getR (ci := 6) (j := 2) rfl (by decide) gX9_27 dX9_lineAt_6 c1 rfl ?_
    refine wp_aload_n 0 dX9_lineAt_9 rfl ?_
    refine wp_getI (ci := 6) (j := 5) rfl (by decide) gX9_44 dX9_lineAt_10 c1 rfl (fun q => ?_)
    have f2 := q
    replace k := k q
    refine wp_iload_n 1 dX9_lineAt_13 rfl ?_
    have c3 := k.1
    replace k := k.2
    refine wp_callV (ci := 5) (y' := mX7_areDigits) (st := []) [jI (hI h 605 a0), jI a1] rfl rfl rfl fX7_areDigits kX9_85 nX7_areDigits dX9_lineAt_14 (Nat.le_of_ble_eq_true rfl) c3 ?_
    refine jCall.mono k (fun o h14 k => ?_)
    obtain ⟨v14, e, k⟩ := k
    subst e
    show jWp (d + 1) mX9_lineAt 17 [(0, jR a0), (1, jI a1)] [jI v14] h14 Q
    refine wp_if_ne 22 dX9_lineAt_17 rfl (fun q => ?_) (fun q => ?_)
    · replace k := k.1 q
      refine wp_aload_n 0 dX9_lineAt_22 rfl ?_
      have c4 := k.1
      replace k := k.2
      refine wp_getR (ci := 6) (j := 2) rfl (by decide) gX9_27 dX9_lineAt_23 c4 rfl ?_
      refine wp_aload_n 0 dX9_lineAt_26 rfl ?_
      refine wp_getI (ci := 6) (j := 5) rfl (by decide) gX9_44 dX9_lineAt_27 c4 rfl (fun q => ?_)
      have f5 := q
      replace k := k q
      refine wp_iload_n 1 dX9_lineAt_30 rfl ?_
      have c6 := k.1
      replace k := k.2
      refine wp_callV (ci := 5) (y' := mX7_digitsAt) (st := []) [jI (hI h14 605 a0), jI a1] rfl rfl rfl fX7_digitsAt kX9_88 nX7_digitsAt dX9_lineAt_31 (Nat.le_of_ble_eq_true rfl) c6 ?_
      refine jCall.mono k (fun o h31 k => ?_)
      obtain ⟨v31, e, k⟩ := k
      subst e
      show jWp (d + 1) mX9_lineAt 34 [(0, jR a0), (1, jI a1)] [jL v31] h31 Q
      have c7 := k.1
      replace k := k.2
      refine wp_l2i dX9_lineAt_34 c7 ?_
      refine wp_iload_n 1 dX9_lineAt_35 rfl ?_
      refine wp_callS (y' := mX8_lineOf) (st := []) [jI v31, jI a1] rfl fX8_lineOf kX9_92 nX8_lineOf dX9_lineAt_36 (Nat.le_of_ble_eq_true rfl) ?_
      refine jCall.mono k (fun o h36 k => ?_)
      obtain ⟨v36, e, k⟩ := k
      subst e
      show jWp (d + 1) mX9_lineAt 39 [(0, jR a0), (1, jI a1)] [jI v36] h36 Q
      exact wp_iret dX9_lineAt_39 rfl k
    · replace k := k.2 q
      refine wp_iconst dX9_lineAt_20 ⟨by decide, by decide⟩ ?_
      exact wp_iret dX9_lineAt_21 rfl k
theorem bX9_newElement {d : Nat} {h : jH} {Q : jO → jH → Prop} {a0 : Nat} {a1 : Int} (k : jOK h → j32 a1 → hK h a0 = 7 ∧ jCall d mX9_lineAt [jR a0, jI a1] h (fun o h2 => ∃ v2, o = .inl (some (jI v2)) ∧ ((v2 ≠ (-1) → hK h2 a0 = 7 ∧ hK h2 (hR h2 600 a0) = 5 ∧ jCall d mX6_grow [jR (hR h2 600 a0)] h2 (fun o h27 => ∃ v27, o = .inl (some (jR v27)) ∧ ((v27 ≠ 0 → hK h27 a0 = 7 ∧ (j32 (hI h27 605 a0) → hK h27 (hR h27 602 a0) = 6 ∧ jCall d mX7_digitsAt [jR (hR h27 602 a0), jI (hI h27 605 a0), jI a1] h27 (fun o h58 => ∃ v58, o = .inl (some (jL v58)) ∧ j32 (v58) ∧ hK h58 a0 = 7 ∧ (j32 (hI h58 604 a0) → hK h58 v27 = 3 ∧ jCall d mX4_begin [jR v27, jI v58, jI a1, jI v2, jI (hI h58 604 a0)] h58 (fun o h68 => o = .inl none ∧ hK h68 a0 = 7 ∧ (j32 (hI h68 605 a0) → hK h68 (hR h68 601 a0) = 6 ∧ jCall d mX7_put [jR (hR h68 601 a0), jI (hI h68 605 a0)] h68 (fun o h79 => o = .inl none ∧ Q (.inl (some (jR v27))) h79))))))) ∧ (¬ (v27 ≠ 0) → hK h27 a0 = 7 ∧ (j32 (hI h27 605 a0) → jCall d mX9_refuse [jR a0, jI 9, jI (hI h27 605 a0)] h27 (fun o h42 => ∃ v42, o = .inl (some (jI v42)) ∧ Q (.inl (some (jR 0))) h42)))))) ∧ (v2 = (-1) → hK h2 a0 = 7 ∧ (j32 (hI h2 605 a0) → jCall d mX9_refuse [jR a0, jI 2, jI (hI h2 605 a0)] h2 (fun o h17 => ∃ v17, o = .inl (some (jI v17)) ∧ Q (.inl (some (jR 0))) h17)))))) : jCall (d + 1) mX9_newElement [jR a0, jI a1] h Q := by
  refine jCall_of plX9 (Nat.le_of_ble_eq_true rfl) ?_
  show jWp (d + 1) mX9_newElement 0 [(0, jR a0), (1, jI a1)] [] h Q
  refine jw_ok (fun ok q => ?_)
  replace k := k ok (q _ (.tail _ (.head _)))
  refine wp_aload_n 0 dX9_newElement_0 rfl ?_
  refine wp_iload_n 1 dX9_newElement_1 rfl ?_
  have c1 := k.1
  replace k := k.2
  refine wp_callV (ci := 6) (y' := mX9_lineAt) (st := []) [jI a1] rfl rfl rfl fX9_lineAt kX9_82 nX9_lineAt dX9_newElement_2 (Nat.le_of_ble_eq_true rfl) c1 ?_
  refine jCall.mono k (fun o h2 k => ?_)
  obtain ⟨v2, e, k⟩ := k
  subst e
  show jWp (d + 1) mX9_newElement 5 [(0, jR a0), (1, jI a1)] [jI v2] h2 Q
  refine wp_istore_n [1, 2, 0] (ls' := [(0, jR a0), (1, jI a1), (2, jI v2)]) dX9_newElement_5 (by decide) rfl ?_
  refine wp_iload_n 2 dX9_newElement_6 rfl ?_
  refine wp_iconst dX9_newElement_7 ⟨by decide, by decide⟩ ?_
  refine wp_icmp_ne 23 dX9_newElement_8 rfl (fun q => ?_) (fun q => ?_)
  · replace k := k.1 q
    refine wp_aload_n 0 dX9_newElement_23 rfl ?_
    have c2 := k.1
    replace k := k.2
    refine wp_getR (ci := 6) (j := 0) rfl (by decide) gX9_12 dX9_newElement_24 c2 rfl ?_
    have c3 := k.1
    replace k := k.2
    refine wp_callV (ci := 4) (y' := mX6_grow) (st := []) [] rfl rfl rfl fX6_grow kX9_98 nX6_grow dX9_newElement_27 (Nat.le_of_ble_eq_true rfl) c3 ?_
    refine jCall.mono k (fun o h27 k => ?_)
    obtain ⟨v27, e, k⟩ := k
    subst e
    show jWp (d + 1) mX9_newElement 30 [(0, jR a0), (1, jI a1), (2, jI v2)] [jR v27] h27 Q
    refine wp_astore_n [1, 2, 3, 0] (ls' := [(0, jR a0), (1, jI a1), (2, jI v2), (3, jR v27)]) dX9_newElement_30 (by decide) rfl ?_
    refine wp_aload_n 3 dX9_newElement_31 rfl ?_
    refine wp_ifnonnull 48 dX9_newElement_32 rfl (fun q => ?_) (fun q => ?_)
    · replace k := k.1 q
      refine wp_aload_n 3 dX9_newElement_48 rfl ?_
      refine wp_aload_n 0 dX9_newElement_49 rfl ?_
      have c4 := k.1
      replace k := k.2
      refine wp_getR (ci := 6) (j := 2) rfl (by decide) gX9_27 dX9_newElement_50 c4 rfl ?_
      refine wp_aload_n 0 dX9_newElement_53 rfl ?_
      refine wp_getI (ci := 6) (j := 5) rfl (by decide) gX9_44 dX9_newElement_54 c4 rfl (fun q => ?_)
      have f5 := q
      replace k := k q
      refine wp_iload_n 1 dX9_newElement_57 rfl ?_
      have c6 := k.1
      replace k := k.2
      refine wp_callV (ci := 5) (y' := mX7_digitsAt) (st := [jR v27]) [jI (hI h27 605 a0), jI a1] rfl rfl rfl fX7_digitsAt kX9_88 nX7_digitsAt dX9_newElement_58 (Nat.le_of_ble_eq_true rfl) c6 ?_
      refine jCall.mono k (fun o h58 k => ?_)
      obtain ⟨v58, e, k⟩ := k
      subst e
      show jWp (d + 1) mX9_newElement 61 [(0, jR a0), (1, jI a1), (2, jI v2), (3, jR v27)] [jL v58, jR v27] h58 Q
      have c7 := k.1
      replace k := k.2
      refine wp_l2i dX9_newElement_61 c7 ?_
      refine wp_iload_n 1 dX9_newElement_62 rfl ?_
      refine wp_iload_n 2 dX9_newElement_63 rfl ?_
      refine wp_aload_n 0 dX9_newElement_64 rfl ?_
      have c8 := k.1
      replace k := k.2
      refine wp_getI (ci := 6) (j := 4) rfl (by decide) gX9_41 dX9_newElement_65 c8 rfl (fun q => ?_)
      have f9 := q
      replace k := k q
      have c10 := k.1
      replace k := k.2
      refine wp_callV (ci := 2) (y' := mX4_begin) (st := []) [jI v58, jI a1, jI v2, jI (hI h58 604 a0)] rfl rfl rfl fX4_begin kX9_101 nX4_begin dX9_newElement_68 (Nat.le_of_ble_eq_true rfl) c10 ?_
      refine jCall.mono k (fun o h68 k => ?_)
      obtain ⟨e, k⟩ := k
      subst e
      show jWp (d + 1) mX9_newElement 71 [(0, jR a0), (1, jI a1), (2, jI v2), (3, jR v27)] [] h68 Q
      refine wp_aload_n 0 dX9_newElement_71 rfl ?_
      have c11 := k.1
      replace k := k.2
      refine wp_getR (ci := 6) (j := 1) rfl (by decide) gX9_23 dX9_newElement_72 c11 rfl ?_
      refine wp_aload_n 0 dX9_newElement_75 rfl ?_
      refine wp_getI (ci := 6) (j := 5) rfl (by decide) gX9_44 dX9_newElement_76 c11 rfl (fun q => ?_)
      have f12 := q
      replace k := k q
      have c13 := k.1
      replace k := k.2
      refine wp_callV (ci := 5) (y' := mX7_put) (st := []) [jI (hI h68 605 a0)] rfl rfl rfl fX7_put kX9_107 nX7_put dX9_newElement_79 (Nat.le_of_ble_eq_true rfl) c13 ?_
      refine jCall.mono k (fun o h79 k => ?_)
      obtain ⟨e, k⟩ := k
      subst e
      show jWp (d + 1) mX9_newElement 82 [(0, jR a0), (1, jI a1), (2, jI v2), (3, jR v27)] [] h79 Q
      refine wp_aload_n 3 dX9_newElement_82 rfl ?_
      exact wp_areturn dX9_newElement_83 rfl k
    · replace k := k.2 q
      refine wp_aload_n 0 dX9_newElement_35 rfl ?_
      refine wp_bipush dX9_newElement_36 ⟨by decide, by decide⟩ ?_
      refine wp_aload_n 0 dX9_newElement_38 rfl ?_
      have c14 := k.1
      replace k := k.2
      refine wp_getI (ci := 6) (j := 5) rfl (by decide) gX9_44 dX9_newElement_39 c14 rfl (fun q => ?_)
      have f15 := q
      replace k := k q
      refine wp_callV (ci := 6) (y' := mX9_refuse) (st := []) [jI 9, jI (hI h27 605 a0)] rfl rfl rfl fX9_refuse kX9_74 nX9_refuse dX9_newElement_42 (Nat.le_of_ble_eq_true rfl) c14 ?_
      refine jCall.mono k (fun o h42 k => ?_)
      obtain ⟨v42, e, k⟩ := k
      subst e
      show jWp (d + 1) mX9_newElement 45 [(0, jR a0), (1, jI a1), (2, jI v2), (3, jR v27)] [jI v42] h42 Q
      refine wp_pop dX9_newElement_45 rfl ?_
      refine wp_null dX9_newElement_46 ?_
      exact wp_areturn dX9_newElement_47 rfl k
  · replace k := k.2 q
    refine wp_aload_n 0 dX9_newElement_11 rfl ?_
    refine wp_iconst dX9_newElement_12 ⟨by decide, by decide⟩ ?_
    refine wp_aload_n 0 dX9_newElement_13 rfl ?_
    have c16 := k.1
    replace k := k.2
    refine wp_getI (ci := 6) (j := 5) rfl (by decide) gX9_44 dX9_newElement_14 c16 rfl (fun q => ?_)
    have f17 := q
    replace k := k q
    refine wp_callV (ci := 6) (y' := mX9_refuse) (st := []) [jI 2, jI (hI h2 605 a0)] rfl rfl rfl fX9_refuse kX9_74 nX9_refuse dX9_newElement_17 (Nat.le_of_ble_eq_true rfl) c16 ?_
    refine jCall.mono k (fun o h17 k => ?_)
    obtain ⟨v17, e, k⟩ := k
    subst e
    show jWp (d + 1) mX9_newElement 20 [(0, jR a0), (1, jI a1), (2, jI v2)] [jI v17] h17 Q
    refine wp_pop dX9_newElement_20 rfl ?_
    refine wp_null dX9_newElement_21 ?_
    exact wp_areturn dX9_newElement_22 rfl k
theorem bX9_readValue {d : Nat} {h : jH} {Q : jO → jH → Prop} {a0 : Nat} {a1 : Nat} (k : jOK h → hK h a1 = 3 ∧ jCall d mX4_value [jR a1] h (fun o h1 => ∃ v1, o = .inl (some (jR v1)) ∧ jWp (d + 1) mX9_readValue 7 [(0, jR a0), (1, jR a1), (2, jR v1), (3, jI 0)] [] h1 Q)) : jCall (d + 1) mX9_readValue [jR a0, jR a1] h Q := by
  refine jCall_of plX9 (Nat.le_of_ble_eq_true rfl) ?_
  show jWp (d + 1) mX9_readValue 0 [(0, jR a0), (1, jR a1)] [] h Q
  refine jw_ok (fun ok q => ?_)
  replace k := k ok 
  refine wp_aload_n 1 dX9_readValue_0 rfl ?_
  have c1 := k.1
  replace k := k.2
  refine wp_callV (ci := 2) (y' := mX4_value) (st := []) [] rfl rfl rfl fX4_value kX9_110 nX4_value dX9_readValue_1 (Nat.le_of_ble_eq_true rfl) c1 ?_
  refine jCall.mono k (fun o h1 k => ?_)
  obtain ⟨v1, e, k⟩ := k
  subst e
  show jWp (d + 1) mX9_readValue 4 [(0, jR a0), (1, jR a1)] [jR v1] h1 Q
  refine wp_astore_n [1, 2, 0] (ls' := [(0, jR a0), (1, jR a1), (2, jR v1)]) dX9_readValue_4 (by decide) rfl ?_
  refine wp_iconst dX9_readValue_5 ⟨by decide, by decide⟩ ?_
  refine wp_istore_n [1, 2, 3, 0] (ls' := [(0, jR a0), (1, jR a1), (2, jR v1), (3, jI 0)]) dX9_readValue_6 (by decide) rfl ?_
  exact k
theorem bX9_readValue_7 {d : Nat} {h : jH} {Q : jO → jH → Prop} {a0 : Nat} {a1 : Nat} {a2 : Nat} {a3 : Int} (k : jOK h → j32 a3 → ((4 ≤ a3 → hK h a0 = 7 ∧ (j32 (hI h 603 a0) → (((hI h 603 a0) ≠ 0 → jWp (d + 1) mX9_readValue 107 [(0, jR a0)] [] h Q) ∧ ((hI h 603 a0) = 0 → hK h a1 = 3 ∧ jCall d mX4_isFixed [jR a1] h (fun o h97 => ∃ v97, o = .inl (some (jI v97)) ∧ ((v97 = 0 → jWp (d + 1) mX9_readValue 107 [(0, jR a0)] [] h97 Q) ∧ (¬ (v97 = 0) → jWp (d + 1) mX9_readValue 108 [(0, jR a0)] [jI 1] h97 Q))))))) ∧ (¬ (4 ≤ a3) → hK h a1 = 3 ∧ jCall d mX4_line [jR a1] h (fun o h13 => ∃ v13, o = .inl (some (jI v13)) ∧ jCall d mX8_partAt [jI v13, jI a3] h13 (fun o h17 => ∃ v17, o = .inl (some (jI v17)) ∧ ((v17 = 0 → hK h17 a0 = 7 ∧ (j32 (hI h17 603 a0) → (((hI h17 603 a0) ≠ 0 → jWp (d + 1) mX9_readValue 107 [(0, jR a0)] [] h17 Q) ∧ ((hI h17 603 a0) = 0 → hK h17 a1 = 3 ∧ jCall d mX4_isFixed [jR a1] h17 (fun o h97_1 => ∃ v97_1, o = .inl (some (jI v97_1)) ∧ ((v97_1 = 0 → jWp (d + 1) mX9_readValue 107 [(0, jR a0)] [] h97_1 Q) ∧ (¬ (v97_1 = 0) → jWp (d + 1) mX9_readValue 108 [(0, jR a0)] [jI 1] h97_1 Q))))))) ∧ (¬ (v17 = 0) → jCall d mX8_mayBeLeftOut [jI v17] h17 (fun o h29 => ∃ v29, o = .inl (some (jI v29)) ∧ ((v29 = 0 → hK h29 a2 = 6 ∧ jCall d mX7_count [jR a2] h29 (fun o h46 => ∃ v46, o = .inl (some (jI v46)) ∧ hK h46 a0 = 7 ∧ (j32 (hI h46 605 a0) → jCall d mX9_readPart [jR a0, jR a2, jI v17] h46 (fun o h61 => ∃ v61, o = .inl (some (jI v61)) ∧ ((v61 = 0 → Q (.inl (some (jI 0))) h61) ∧ (¬ (v61 = 0) → hK h61 a0 = 7 ∧ jCall d mX9_judgePart [jR a0, jR a2, jI v17, jI v46, jI (hI h46 605 a0)] h61 (fun o h75 => ∃ v75, o = .inl (some (jI v75)) ∧ ((v75 ≠ 0 → j32 (a3 + 1) ∧ jWp (d + 1) mX9_readValue 7 [(0, jR a0), (1, jR a1), (2, jR a2), (3, jI (a3 + 1))] [] h75 Q) ∧ (v75 = 0 → Q (.inl (some (jI 0))) h75))))))))) ∧ (¬ (v29 = 0) → hK h29 a0 = 7 ∧ jCall d mX9_isValueOver [jR a0] h29 (fun o h36 => ∃ v36, o = .inl (some (jI v36)) ∧ ((v36 = 0 → hK h36 a2 = 6 ∧ jCall d mX7_count [jR a2] h36 (fun o h46_1 => ∃ v46_1, o = .inl (some (jI v46_1)) ∧ hK h46_1 a0 = 7 ∧ (j32 (hI h46_1 605 a0) → jCall d mX9_readPart [jR a0, jR a2, jI v17] h46_1 (fun o h61_1 => ∃ v61_1, o = .inl (some (jI v61_1)) ∧ ((v61_1 = 0 → Q (.inl (some (jI 0))) h61_1) ∧ (¬ (v61_1 = 0) → hK h61_1 a0 = 7 ∧ jCall d mX9_judgePart [jR a0, jR a2, jI v17, jI v46_1, jI (hI h46_1 605 a0)] h61_1 (fun o h75_1 => ∃ v75_1, o = .inl (some (jI v75_1)) ∧ ((v75_1 ≠ 0 → j32 (a3 + 1) ∧ jWp (d + 1) mX9_readValue 7 [(0, jR a0), (1, jR a1), (2, jR a2), (3, jI (a3 + 1))] [] h75_1 Q) ∧ (v75_1 = 0 → Q (.inl (some (jI 0))) h75_1))))))))) ∧ (¬ (v36 = 0) → hK h36 a0 = 7 ∧ (j32 (hI h36 603 a0) → (((hI h36 603 a0) ≠ 0 → jWp (d + 1) mX9_readValue 107 [(0, jR a0)] [] h36 Q) ∧ ((hI h36 603 a0) = 0 → hK h36 a1 = 3 ∧ jCall d mX4_isFixed [jR a1] h36 (fun o h97_2 => ∃ v97_2, o = .inl (some (jI v97_2)) ∧ ((v97_2 = 0 → jWp (d + 1) mX9_readValue 107 [(0, jR a0)] [] h97_2 Q) ∧ (¬ (v97_2 = 0) → jWp (d + 1) mX9_readValue 108 [(0, jR a0)] [jI 1] h97_2 Q))))))))))))))))))) : jWp (d + 1) mX9_readValue 7 [(0, jR a0), (1, jR a1), (2, jR a2), (3, jI a3)] [] h Q := by
  refine jw_ok (fun ok q => ?_)
  replace k := k ok (q _ (.tail _ (.tail _ (.tail _ (.head _)))))
  refine wp_iload_n 3 dX9_readValue_7 rfl ?_
  refine wp_iconst dX9_readValue_8 ⟨by decide, by decide⟩ ?_
  refine wp_icmp_ge 89 dX9_readValue_9 rfl (fun q => ?_) (fun q => ?_)
  · replace k := k.1 q
    refine wp_aload_n 0 dX9_readValue_89 rfl ?_
    have c1 := k.1
    replace k := k.2
    refine wp_getI (ci := 6) (j := 3) rfl (by decide) gX9_37 dX9_readValue_90 c1 rfl (fun q => ?_)
    have f2 := q
    replace k := k q
    refine wp_if_ne 107 dX9_readValue_93 rfl (fun q => ?_) (fun q => ?_)
    · replace k := k.1 q
      refine wp_sub [0] (ls' := [(0, jR a0)]) rfl ?_
      exact k
    · replace k := k.2 q
      refine wp_aload_n 1 dX9_readValue_96 rfl ?_
      have c3 := k.1
      replace k := k.2
      refine wp_callV (ci := 2) (y' := mX4_isFixed) (st := []) [] rfl rfl rfl fX4_isFixed kX9_136 nX4_isFixed dX9_readValue_97 (Nat.le_of_ble_eq_true rfl) c3 ?_
      refine jCall.mono k (fun o h97 k => ?_)
      obtain ⟨v97, e, k⟩ := k
      subst e
      show jWp (d + 1) mX9_readValue 100 [(0, jR a0), (1, jR a1), (2, jR a2), (3, jI a3)] [jI v97] h97 Q
      refine wp_if_eq 107 dX9_readValue_100 rfl (fun q => ?_) (fun q => ?_)
      · replace k := k.1 q
        refine wp_sub [0] (ls' := [(0, jR a0)]) rfl ?_
        exact k
      · replace k := k.2 q
        refine wp_iconst dX9_readValue_103 ⟨by decide, by decide⟩ ?_
        refine wp_goto 108 dX9_readValue_104 rfl ?_
        refine wp_sub [0] (ls' := [(0, jR a0)]) rfl ?_
        exact k
  · replace k := k.2 q
    refine wp_aload_n 1 dX9_readValue_12 rfl ?_
    have c4 := k.1
    replace k := k.2
    refine wp_callV (ci := 2) (y' := mX4_line) (st := []) [] rfl rfl rfl fX4_line kX9_114 nX4_line dX9_readValue_13 (Nat.le_of_ble_eq_true rfl) c4 ?_
    refine jCall.mono k (fun o h13 k => ?_)
    obtain ⟨v13, e, k⟩ := k
    subst e
    show jWp (d + 1) mX9_readValue 16 [(0, jR a0), (1, jR a1), (2, jR a2), (3, jI a3)] [jI v13] h13 Q
    refine wp_iload_n 3 dX9_readValue_16 rfl ?_
    refine wp_callS (y' := mX8_partAt) (st := []) [jI v13, jI a3] rfl fX8_partAt kX9_117 nX8_partAt dX9_readValue_17 (Nat.le_of_ble_eq_true rfl) ?_
    refine jCall.mono k (fun o h17 k => ?_)
    obtain ⟨v17, e, k⟩ := k
    subst e
    show jWp (d + 1) mX9_readValue 20 [(0, jR a0), (1, jR a1), (2, jR a2), (3, jI a3)] [jI v17] h17 Q
    refine wp_istore [1, 2, 3, 4, 0] (ls' := [(0, jR a0), (1, jR a1), (2, jR a2), (3, jI a3), (4, jI v17)]) dX9_readValue_20 (by decide) rfl ?_
    refine wp_iload 4 dX9_readValue_22 rfl ?_
    refine wp_if_eq 89 dX9_readValue_24 rfl (fun q => ?_) (fun q => ?_)
    · replace k := k.1 q
      refine wp_aload_n 0 dX9_readValue_89 rfl ?_
      have c5 := k.1
      replace k := k.2
      refine wp_getI (ci := 6) (j := 3) rfl (by decide) gX9_37 dX9_readValue_90 c5 rfl (fun q => ?_)
      have f6 := q
      replace k := k q
      refine wp_if_ne 107 dX9_readValue_93 rfl (fun q => ?_) (fun q => ?_)
      · replace k := k.1 q
        refine wp_sub [0] (ls' := [(0, jR a0)]) rfl ?_
        exact k
      · replace k := k.2 q
        refine wp_aload_n 1 dX9_readValue_96 rfl ?_
        have c7 := k.1
        replace k := k.2
        refine wp_callV (ci := 2) (y' := mX4_isFixed) (st := []) [] rfl rfl rfl fX4_isFixed kX9_136 nX4_isFixed dX9_readValue_97 (Nat.le_of_ble_eq_true rfl) c7 ?_
        refine jCall.mono k (fun o h97_1 k => ?_)
        obtain ⟨v97_1, e, k⟩ := k
        subst e
        show jWp (d + 1) mX9_readValue 100 [(0, jR a0), (1, jR a1), (2, jR a2), (3, jI a3), (4, jI v17)] [jI v97_1] h97_1 Q
        refine wp_if_eq 107 dX9_readValue_100 rfl (fun q => ?_) (fun q => ?_)
        · replace k := k.1 q
          refine wp_sub [0] (ls' := [(0, jR a0)]) rfl ?_
          exact k
        · replace k := k.2 q
          refine wp_iconst dX9_readValue_103 ⟨by decide, by decide⟩ ?_
          refine wp_goto 108 dX9_readValue_104 rfl ?_
          refine wp_sub [0] (ls' := [(0, jR a0)]) rfl ?_
          exact k
    · replace k := k.2 q
      refine wp_iload 4 dX9_readValue_27 rfl ?_
      refine wp_callS (y' := mX8_mayBeLeftOut) (st := []) [jI v17] rfl fX8_mayBeLeftOut kX9_120 nX8_mayBeLeftOut dX9_readValue_29 (Nat.le_of_ble_eq_true rfl) ?_
      refine jCall.mono k (fun o h29 k => ?_)
      obtain ⟨v29, e, k⟩ := k
      subst e
      show jWp (d + 1) mX9_readValue 32 [(0, jR a0), (1, jR a1), (2, jR a2), (3, jI a3), (4, jI v17)] [jI v29] h29 Q
      refine wp_if_eq 45 dX9_readValue_32 rfl (fun q => ?_) (fun q => ?_)
      · replace k := k.1 q
        refine wp_aload_n 2 dX9_readValue_45 rfl ?_
        have c8 := k.1
        replace k := k.2
        refine wp_callV (ci := 5) (y' := mX7_count) (st := []) [] rfl rfl rfl fX7_count kX9_62 nX7_count dX9_readValue_46 (Nat.le_of_ble_eq_true rfl) c8 ?_
        refine jCall.mono k (fun o h46 k => ?_)
        obtain ⟨v46, e, k⟩ := k
        subst e
        show jWp (d + 1) mX9_readValue 49 [(0, jR a0), (1, jR a1), (2, jR a2), (3, jI a3), (4, jI v17)] [jI v46] h46 Q
        refine wp_istore [1, 2, 3, 4, 5, 0] (ls' := [(0, jR a0), (1, jR a1), (2, jR a2), (3, jI a3), (4, jI v17), (5, jI v46)]) dX9_readValue_49 (by decide) rfl ?_
        refine wp_aload_n 0 dX9_readValue_51 rfl ?_
        have c9 := k.1
        replace k := k.2
        refine wp_getI (ci := 6) (j := 5) rfl (by decide) gX9_44 dX9_readValue_52 c9 rfl (fun q => ?_)
        have f10 := q
        replace k := k q
        refine wp_istore [1, 2, 3, 4, 5, 6, 0] (ls' := [(0, jR a0), (1, jR a1), (2, jR a2), (3, jI a3), (4, jI v17), (5, jI v46), (6, jI (hI h46 605 a0))]) dX9_readValue_55 (by decide) rfl ?_
        refine wp_aload_n 0 dX9_readValue_57 rfl ?_
        refine wp_aload_n 2 dX9_readValue_58 rfl ?_
        refine wp_iload 4 dX9_readValue_59 rfl ?_
        refine wp_callV (ci := 6) (y' := mX9_readPart) (st := []) [jR a2, jI v17] rfl rfl rfl fX9_readPart kX9_128 nX9_readPart dX9_readValue_61 (Nat.le_of_ble_eq_true rfl) c9 ?_
        refine jCall.mono k (fun o h61 k => ?_)
        obtain ⟨v61, e, k⟩ := k
        subst e
        show jWp (d + 1) mX9_readValue 64 [(0, jR a0), (1, jR a1), (2, jR a2), (3, jI a3), (4, jI v17), (5, jI v46), (6, jI (hI h46 605 a0))] [jI v61] h61 Q
        refine wp_if_eq 81 dX9_readValue_64 rfl (fun q => ?_) (fun q => ?_)
        · replace k := k.1 q
          refine wp_iconst dX9_readValue_81 ⟨by decide, by decide⟩ ?_
          exact wp_zreturn dX9_readValue_82 rfl (by decide) (by decide) k
        · replace k := k.2 q
          refine wp_aload_n 0 dX9_readValue_67 rfl ?_
          refine wp_aload_n 2 dX9_readValue_68 rfl ?_
          refine wp_iload 4 dX9_readValue_69 rfl ?_
          refine wp_iload 5 dX9_readValue_71 rfl ?_
          refine wp_iload 6 dX9_readValue_73 rfl ?_
          have c11 := k.1
          replace k := k.2
          refine wp_callV (ci := 6) (y' := mX9_judgePart) (st := []) [jR a2, jI v17, jI v46, jI (hI h46 605 a0)] rfl rfl rfl fX9_judgePart kX9_132 nX9_judgePart dX9_readValue_75 (Nat.le_of_ble_eq_true rfl) c11 ?_
          refine jCall.mono k (fun o h75 k => ?_)
          obtain ⟨v75, e, k⟩ := k
          subst e
          show jWp (d + 1) mX9_readValue 78 [(0, jR a0), (1, jR a1), (2, jR a2), (3, jI a3), (4, jI v17), (5, jI v46), (6, jI (hI h46 605 a0))] [jI v75] h75 Q
          refine wp_if_ne 83 dX9_readValue_78 rfl (fun q => ?_) (fun q => ?_)
          · replace k := k.1 q
            have c12 := k.1
            replace k := k.2
            refine wp_iinc 3 [1, 2, 3, 0] (ls' := [(0, jR a0), (1, jR a1), (2, jR a2), (3, jI (a3 + 1))]) dX9_readValue_83 rfl c12 ⟨by decide, by decide⟩ (by decide) rfl ?_
            refine wp_goto 7 dX9_readValue_86 rfl ?_
            exact k
          · replace k := k.2 q
            refine wp_iconst dX9_readValue_81 ⟨by decide, by decide⟩ ?_
            exact wp_zreturn dX9_readValue_82 rfl (by decide) (by decide) k
      · replace k := k.2 q
        refine wp_aload_n 0 dX9_readValue_35 rfl ?_
        have c13 := k.1
        replace k := k.2
        refine wp_callV (ci := 6) (y' := mX9_isValueOver) (st := []) [] rfl rfl rfl fX9_isValueOver kX9_124 nX9_isValueOver dX9_readValue_36 (Nat.le_of_ble_eq_true rfl) c13 ?_
        refine jCall.mono k (fun o h36 k => ?_)
        obtain ⟨v36, e, k⟩ := k
        subst e
        show jWp (d + 1) mX9_readValue 39 [(0, jR a0), (1, jR a1), (2, jR a2), (3, jI a3), (4, jI v17)] [jI v36] h36 Q
        refine wp_if_eq 45 dX9_readValue_39 rfl (fun q => ?_) (fun q => ?_)
        · replace k := k.1 q
          refine wp_aload_n 2 dX9_readValue_45 rfl ?_
          have c14 := k.1
          replace k := k.2
          refine wp_callV (ci := 5) (y' := mX7_count) (st := []) [] rfl rfl rfl fX7_count kX9_62 nX7_count dX9_readValue_46 (Nat.le_of_ble_eq_true rfl) c14 ?_
          refine jCall.mono k (fun o h46_1 k => ?_)
          obtain ⟨v46_1, e, k⟩ := k
          subst e
          show jWp (d + 1) mX9_readValue 49 [(0, jR a0), (1, jR a1), (2, jR a2), (3, jI a3), (4, jI v17)] [jI v46_1] h46_1 Q
          refine wp_istore [1, 2, 3, 4, 5, 0] (ls' := [(0, jR a0), (1, jR a1), (2, jR a2), (3, jI a3), (4, jI v17), (5, jI v46_1)]) dX9_readValue_49 (by decide) rfl ?_
          refine wp_aload_n 0 dX9_readValue_51 rfl ?_
          have c15 := k.1
          replace k := k.2
          refine wp_getI (ci := 6) (j := 5) rfl (by decide) gX9_44 dX9_readValue_52 c15 rfl (fun q => ?_)
          have f16 := q
          replace k := k q
          refine wp_istore [1, 2, 3, 4, 5, 6, 0] (ls' := [(0, jR a0), (1, jR a1), (2, jR a2), (3, jI a3), (4, jI v17), (5, jI v46_1), (6, jI (hI h46_1 605 a0))]) dX9_readValue_55 (by decide) rfl ?_
          refine wp_aload_n 0 dX9_readValue_57 rfl ?_
          refine wp_aload_n 2 dX9_readValue_58 rfl ?_
          refine wp_iload 4 dX9_readValue_59 rfl ?_
          refine wp_callV (ci := 6) (y' := mX9_readPart) (st := []) [jR a2, jI v17] rfl rfl rfl fX9_readPart kX9_128 nX9_readPart dX9_readValue_61 (Nat.le_of_ble_eq_true rfl) c15 ?_
          refine jCall.mono k (fun o h61_1 k => ?_)
          obtain ⟨v61_1, e, k⟩ := k
          subst e
          show jWp (d + 1) mX9_readValue 64 [(0, jR a0), (1, jR a1), (2, jR a2), (3, jI a3), (4, jI v17), (5, jI v46_1), (6, jI (hI h46_1 605 a0))] [jI v61_1] h61_1 Q
          refine wp_if_eq 81 dX9_readValue_64 rfl (fun q => ?_) (fun q => ?_)
          · replace k := k.1 q
            refine wp_iconst dX9_readValue_81 ⟨by decide, by decide⟩ ?_
            exact wp_zreturn dX9_readValue_82 rfl (by decide) (by decide) k
          · replace k := k.2 q
            refine wp_aload_n 0 dX9_readValue_67 rfl ?_
            refine wp_aload_n 2 dX9_readValue_68 rfl ?_
            refine wp_iload 4 dX9_readValue_69 rfl ?_
            refine wp_iload 5 dX9_readValue_71 rfl ?_
            refine wp_iload 6 dX9_readValue_73 rfl ?_
            have c17 := k.1
            replace k := k.2
            refine wp_callV (ci := 6) (y' := mX9_judgePart) (st := []) [jR a2, jI v17, jI v46_1, jI (hI h46_1 605 a0)] rfl rfl rfl fX9_judgePart kX9_132 nX9_judgePart dX9_readValue_75 (Nat.le_of_ble_eq_true rfl) c17 ?_
            refine jCall.mono k (fun o h75_1 k => ?_)
            obtain ⟨v75_1, e, k⟩ := k
            subst e
            show jWp (d + 1) mX9_readValue 78 [(0, jR a0), (1, jR a1), (2, jR a2), (3, jI a3), (4, jI v17), (5, jI v46_1), (6, jI (hI h46_1 605 a0))] [jI v75_1] h75_1 Q
            refine wp_if_ne 83 dX9_readValue_78 rfl (fun q => ?_) (fun q => ?_)
            · replace k := k.1 q
              have c18 := k.1
              replace k := k.2
              refine wp_iinc 3 [1, 2, 3, 0] (ls' := [(0, jR a0), (1, jR a1), (2, jR a2), (3, jI (a3 + 1))]) dX9_readValue_83 rfl c18 ⟨by decide, by decide⟩ (by decide) rfl ?_
              refine wp_goto 7 dX9_readValue_86 rfl ?_
              exact k
            · replace k := k.2 q
              refine wp_iconst dX9_readValue_81 ⟨by decide, by decide⟩ ?_
              exact wp_zreturn dX9_readValue_82 rfl (by decide) (by decide) k
        · replace k := k.2 q
          refine wp_goto 89 dX9_readValue_42 rfl ?_
          refine wp_aload_n 0 dX9_readValue_89 rfl ?_
          have c19 := k.1
          replace k := k.2
          refine wp_getI (ci := 6) (j := 3) rfl (by decide) gX9_37 dX9_readValue_90 c19 rfl (fun q => ?_)
          have f20 := q
          replace k := k q
          refine wp_if_ne 107 dX9_readValue_93 rfl (fun q => ?_) (fun q => ?_)
          · replace k := k.1 q
            refine wp_sub [0] (ls' := [(0, jR a0)]) rfl ?_
            exact k
          · replace k := k.2 q
            refine wp_aload_n 1 dX9_readValue_96 rfl ?_
            have c21 := k.1
            replace k := k.2
            refine wp_callV (ci := 2) (y' := mX4_isFixed) (st := []) [] rfl rfl rfl fX4_isFixed kX9_136 nX4_isFixed dX9_readValue_97 (Nat.le_of_ble_eq_true rfl) c21 ?_
            refine jCall.mono k (fun o h97_2 k => ?_)
            obtain ⟨v97_2, e, k⟩ := k
            subst e
            show jWp (d + 1) mX9_readValue 100 [(0, jR a0), (1, jR a1), (2, jR a2), (3, jI a3), (4, jI v17)] [jI v97_2] h97_2 Q
            refine wp_if_eq 107 dX9_readValue_100 rfl (fun q => ?_) (fun q => ?_)
            · replace k := k.1 q
              refine wp_sub [0] (ls' := [(0, jR a0)]) rfl ?_
              exact k
            · replace k := k.2 q
              refine wp_iconst dX9_readValue_103 ⟨by decide, by decide⟩ ?_
              refine wp_goto 108 dX9_readValue_104 rfl ?_
              refine wp_sub [0] (ls' := [(0, jR a0)]) rfl ?_
              exact k
theorem bX9_readValue_107 {d : Nat} {h : jH} {Q : jO → jH → Prop} {a0 : Nat} (k : jOK h → jWp (d + 1) mX9_readValue 108 [(0, jR a0)] [jI 0] h Q) : jWp (d + 1) mX9_readValue 107 [(0, jR a0)] [] h Q := by
  refine jw_ok (fun ok q => ?_)
  replace k := k ok 
  refine wp_iconst dX9_readValue_107 ⟨by decide, by decide⟩ ?_
  exact k
theorem bX9_readValue_108 {d : Nat} {h : jH} {Q : jO → jH → Prop} {a0 : Nat} {s0 : Int} (k : jOK h → ((s0 ≠ 0 → jWp (d + 1) mX9_readValue 132 [] [] h Q) ∧ (s0 = 0 → hK h a0 = 7 ∧ jCall d mX9_isValueOver [jR a0] h (fun o h114 => ∃ v114, o = .inl (some (jI v114)) ∧ ((v114 ≠ 0 → jWp (d + 1) mX9_readValue 132 [] [] h114 Q) ∧ (v114 = 0 → hK h114 a0 = 7 ∧ (j32 (hI h114 605 a0) → jCall d mX9_refuse [jR a0, jI 3, jI (hI h114 605 a0)] h114 (fun o h126 => ∃ v126, o = .inl (some (jI v126)) ∧ ((v126 = 0 → jWp (d + 1) mX9_readValue 137 [] [jI 0] h126 Q) ∧ (¬ (v126 = 0) → jWp (d + 1) mX9_readValue 132 [] [] h126 Q)))))))))) : jWp (d + 1) mX9_readValue 108 [(0, jR a0)] [jI s0] h Q := by
  refine jw_ok (fun ok q => ?_)
  replace k := k ok 
  refine wp_istore_n [1, 0] (ls' := [(0, jR a0), (3, jI s0)]) dX9_readValue_108 (by decide) rfl ?_
  refine wp_iload_n 1 dX9_readValue_109 rfl ?_
  refine wp_if_ne 132 dX9_readValue_110 rfl (fun q => ?_) (fun q => ?_)
  · replace k := k.1 q
    refine wp_sub [] (ls' := []) rfl ?_
    exact k
  · replace k := k.2 q
    refine wp_aload_n 0 dX9_readValue_113 rfl ?_
    have c1 := k.1
    replace k := k.2
    refine wp_callV (ci := 6) (y' := mX9_isValueOver) (st := []) [] rfl rfl rfl fX9_isValueOver kX9_124 nX9_isValueOver dX9_readValue_114 (Nat.le_of_ble_eq_true rfl) c1 ?_
    refine jCall.mono k (fun o h114 k => ?_)
    obtain ⟨v114, e, k⟩ := k
    subst e
    show jWp (d + 1) mX9_readValue 117 [(0, jR a0), (3, jI s0)] [jI v114] h114 Q
    refine wp_if_ne 132 dX9_readValue_117 rfl (fun q => ?_) (fun q => ?_)
    · replace k := k.1 q
      refine wp_sub [] (ls' := []) rfl ?_
      exact k
    · replace k := k.2 q
      refine wp_aload_n 0 dX9_readValue_120 rfl ?_
      refine wp_iconst dX9_readValue_121 ⟨by decide, by decide⟩ ?_
      refine wp_aload_n 0 dX9_readValue_122 rfl ?_
      have c2 := k.1
      replace k := k.2
      refine wp_getI (ci := 6) (j := 5) rfl (by decide) gX9_44 dX9_readValue_123 c2 rfl (fun q => ?_)
      have f3 := q
      replace k := k q
      refine wp_callV (ci := 6) (y' := mX9_refuse) (st := []) [jI 3, jI (hI h114 605 a0)] rfl rfl rfl fX9_refuse kX9_74 nX9_refuse dX9_readValue_126 (Nat.le_of_ble_eq_true rfl) c2 ?_
      refine jCall.mono k (fun o h126 k => ?_)
      obtain ⟨v126, e, k⟩ := k
      subst e
      show jWp (d + 1) mX9_readValue 129 [(0, jR a0), (3, jI s0)] [jI v126] h126 Q
      refine wp_if_eq 136 dX9_readValue_129 rfl (fun q => ?_) (fun q => ?_)
      · replace k := k.1 q
        refine wp_iconst dX9_readValue_136 ⟨by decide, by decide⟩ ?_
        refine wp_sub [] (ls' := []) rfl ?_
        exact k
      · replace k := k.2 q
        refine wp_sub [] (ls' := []) rfl ?_
        exact k
theorem bX9_readValue_132 {d : Nat} {h : jH} {Q : jO → jH → Prop}  (k : jOK h → jWp (d + 1) mX9_readValue 137 [] [jI 1] h Q) : jWp (d + 1) mX9_readValue 132 [] [] h Q := by
  refine jw_ok (fun ok q => ?_)
  replace k := k ok 
  refine wp_iconst dX9_readValue_132 ⟨by decide, by decide⟩ ?_
  refine wp_goto 137 dX9_readValue_133 rfl ?_
  exact k
theorem bX9_readValue_137 {d : Nat} {h : jH} {Q : jO → jH → Prop} {s0 : Int} (k : jOK h → (0 ≤ s0 ∧ s0 ≤ 1) ∧ Q (.inl (some (jI s0))) h) : jWp (d + 1) mX9_readValue 137 [] [jI s0] h Q := by
  refine jw_ok (fun ok q => ?_)
  replace k := k ok 
  have c1 := k.1
  replace k := k.2
  exact wp_zreturn dX9_readValue_137 rfl c1.1 c1.2 k
theorem bX9_isValueOver {d : Nat} {h : jH} {Q : jO → jH → Prop} {a0 : Nat} (k : jOK h → hK h a0 = 7 ∧ (j32 (hI h 605 a0) → hK h (hR h 602 a0) = 6 ∧ jCall d mX7_count [jR (hR h 602 a0)] h (fun o h8 => ∃ v8, o = .inl (some (jI v8)) ∧ ((v8 ≤ (hI h 605 a0) → Q (.inl (some (jI 1))) h8) ∧ (¬ (v8 ≤ (hI h 605 a0)) → hK h8 a0 = 7 ∧ (j32 (hI h8 605 a0) → hK h8 (hR h8 602 a0) = 6 ∧ jCall d mX7_at [jR (hR h8 602 a0), jI (hI h8 605 a0)] h8 (fun o h22 => ∃ v22, o = .inl (some (jI v22)) ∧ hK h22 a0 = 7 ∧ (j32 (hI h22 603 a0) → (((hI h22 603 a0) = 0 → ((v22 ≠ 29 → Q (.inl (some (jI 0))) h22) ∧ (v22 = 29 → Q (.inl (some (jI 1))) h22))) ∧ (¬ ((hI h22 603 a0) = 0) → ((v22 ≠ 40 → Q (.inl (some (jI 0))) h22) ∧ (v22 = 40 → Q (.inl (some (jI 1))) h22)))))))))))) : jCall (d + 1) mX9_isValueOver [jR a0] h Q := by
  refine jCall_of plX9 (Nat.le_of_ble_eq_true rfl) ?_
  show jWp (d + 1) mX9_isValueOver 0 [(0, jR a0)] [] h Q
  refine jw_ok (fun ok q => ?_)
  replace k := k ok 
  refine wp_aload_n 0 dX9_isValueOver_0 rfl ?_
  have c1 := k.1
  replace k := k.2
  refine wp_getI (ci := 6) (j := 5) rfl (by decide) gX9_44 dX9_isValueOver_1 c1 rfl (fun q => ?_)
  have f2 := q
  replace k := k q
  refine wp_aload_n 0 dX9_isValueOver_4 rfl ?_
  refine wp_getR (ci := 6) (j := 2) rfl (by decide) gX9_27 dX9_isValueOver_5 c1 rfl ?_
  have c3 := k.1
  replace k := k.2
  refine wp_callV (ci := 5) (y' := mX7_count) (st := [jI (hI h 605 a0)]) [] rfl rfl rfl fX7_count kX9_62 nX7_count dX9_isValueOver_8 (Nat.le_of_ble_eq_true rfl) c3 ?_
  refine jCall.mono k (fun o h8 k => ?_)
  obtain ⟨v8, e, k⟩ := k
  subst e
  show jWp (d + 1) mX9_isValueOver 11 [(0, jR a0)] [jI v8, jI (hI h 605 a0)] h8 Q
  refine wp_icmp_ge 42 dX9_isValueOver_11 rfl (fun q => ?_) (fun q => ?_)
  · replace k := k.1 q
    refine wp_iconst dX9_isValueOver_42 ⟨by decide, by decide⟩ ?_
    refine wp_goto 47 dX9_isValueOver_43 rfl ?_
    exact wp_zreturn dX9_isValueOver_47 rfl (by decide) (by decide) k
  · replace k := k.2 q
    refine wp_aload_n 0 dX9_isValueOver_14 rfl ?_
    have c4 := k.1
    replace k := k.2
    refine wp_getR (ci := 6) (j := 2) rfl (by decide) gX9_27 dX9_isValueOver_15 c4 rfl ?_
    refine wp_aload_n 0 dX9_isValueOver_18 rfl ?_
    refine wp_getI (ci := 6) (j := 5) rfl (by decide) gX9_44 dX9_isValueOver_19 c4 rfl (fun q => ?_)
    have f5 := q
    replace k := k q
    have c6 := k.1
    replace k := k.2
    refine wp_callV (ci := 5) (y' := mX7_at) (st := []) [jI (hI h8 605 a0)] rfl rfl rfl fX7_at kX9_66 nX7_at dX9_isValueOver_22 (Nat.le_of_ble_eq_true rfl) c6 ?_
    refine jCall.mono k (fun o h22 k => ?_)
    obtain ⟨v22, e, k⟩ := k
    subst e
    show jWp (d + 1) mX9_isValueOver 25 [(0, jR a0)] [jI v22] h22 Q
    refine wp_aload_n 0 dX9_isValueOver_25 rfl ?_
    have c7 := k.1
    replace k := k.2
    refine wp_getI (ci := 6) (j := 3) rfl (by decide) gX9_37 dX9_isValueOver_26 c7 rfl (fun q => ?_)
    have f8 := q
    replace k := k q
    refine wp_if_eq 37 dX9_isValueOver_29 rfl (fun q => ?_) (fun q => ?_)
    · replace k := k.1 q
      refine wp_bipush dX9_isValueOver_37 ⟨by decide, by decide⟩ ?_
      refine wp_icmp_ne 46 dX9_isValueOver_39 rfl (fun q => ?_) (fun q => ?_)
      · replace k := k.1 q
        refine wp_iconst dX9_isValueOver_46 ⟨by decide, by decide⟩ ?_
        exact wp_zreturn dX9_isValueOver_47 rfl (by decide) (by decide) k
      · replace k := k.2 q
        refine wp_iconst dX9_isValueOver_42 ⟨by decide, by decide⟩ ?_
        refine wp_goto 47 dX9_isValueOver_43 rfl ?_
        exact wp_zreturn dX9_isValueOver_47 rfl (by decide) (by decide) k
    · replace k := k.2 q
      refine wp_bipush dX9_isValueOver_32 ⟨by decide, by decide⟩ ?_
      refine wp_goto 39 dX9_isValueOver_34 rfl ?_
      refine wp_icmp_ne 46 dX9_isValueOver_39 rfl (fun q => ?_) (fun q => ?_)
      · replace k := k.1 q
        refine wp_iconst dX9_isValueOver_46 ⟨by decide, by decide⟩ ?_
        exact wp_zreturn dX9_isValueOver_47 rfl (by decide) (by decide) k
      · replace k := k.2 q
        refine wp_iconst dX9_isValueOver_42 ⟨by decide, by decide⟩ ?_
        refine wp_goto 47 dX9_isValueOver_43 rfl ?_
        exact wp_zreturn dX9_isValueOver_47 rfl (by decide) (by decide) k
theorem bX9_readPart {d : Nat} {h : jH} {Q : jO → jH → Prop} {a0 : Nat} {a1 : Nat} {a2 : Int} (k : jOK h → j32 a2 → jWp (d + 1) mX9_readPart 2 [(0, jR a0), (1, jR a1), (2, jI a2), (3, jI 0)] [] h Q) : jCall (d + 1) mX9_readPart [jR a0, jR a1, jI a2] h Q := by
  refine jCall_of plX9 (Nat.le_of_ble_eq_true rfl) ?_
  show jWp (d + 1) mX9_readPart 0 [(0, jR a0), (1, jR a1), (2, jI a2)] [] h Q
  refine jw_ok (fun ok q => ?_)
  replace k := k ok (q _ (.tail _ (.tail _ (.head _))))
  refine wp_iconst dX9_readPart_0 ⟨by decide, by decide⟩ ?_
  refine wp_istore_n [1, 2, 3, 0] (ls' := [(0, jR a0), (1, jR a1), (2, jI a2), (3, jI 0)]) dX9_readPart_1 (by decide) rfl ?_
  exact k
theorem bX9_readPart_2 {d : Nat} {h : jH} {Q : jO → jH → Prop} {a0 : Nat} {a1 : Nat} {a2 : Int} {a3 : Int} (k : jOK h → j32 a2 → j32 a3 → jCall d mX8_mostBytes [jI a2] h (fun o h4 => ∃ v4, o = .inl (some (jI v4)) ∧ ((v4 ≤ a3 → Q (.inl (some (jI 1))) h4) ∧ (¬ (v4 ≤ a3) → hK h4 a0 = 7 ∧ jCall d mX9_isValueOver [jR a0] h4 (fun o h11 => ∃ v11, o = .inl (some (jI v11)) ∧ ((v11 = 0 → hK h11 a0 = 7 ∧ jCall d mX9_isEscapedBracket [jR a0] h11 (fun o h42 => ∃ v42, o = .inl (some (jI v42)) ∧ ((v42 = 0 → hK h42 a0 = 7 ∧ (j32 (hI h42 605 a0) → hK h42 (hR h42 602 a0) = 6 ∧ jCall d mX7_at [jR (hR h42 602 a0), jI (hI h42 605 a0)] h42 (fun o h65 => ∃ v65, o = .inl (some (jI v65)) ∧ jCall d mX8_sort [jI a2] h65 (fun o h73 => ∃ v73, o = .inl (some (jI v73)) ∧ jCall d mX8_fits [jI v65, jI v73] h73 (fun o h76 => ∃ v76, o = .inl (some (jI v76)) ∧ ((v76 ≠ 0 → hK h76 a1 = 6 ∧ jCall d mX7_put [jR a1, jI v65] h76 (fun o h95 => o = .inl none ∧ hK h95 a0 = 7 ∧ (j32 (hI h95 605 a0) → ((v42 = 0 → jWp (d + 1) mX9_readPart 113 [(0, jR a0), (1, jR a1), (2, jI a2), (3, jI a3)] [jI 1, jI (hI h95 605 a0), jR a0] h95 Q) ∧ (¬ (v42 = 0) → jWp (d + 1) mX9_readPart 113 [(0, jR a0), (1, jR a1), (2, jI a2), (3, jI a3)] [jI 2, jI (hI h95 605 a0), jR a0] h95 Q))))) ∧ (v76 = 0 → hK h76 a0 = 7 ∧ (j32 (hI h76 605 a0) → jCall d mX9_refuse [jR a0, jI 4, jI (hI h76 605 a0)] h76 (fun o h88 => ∃ v88, o = .inl (some (jI v88)) ∧ (0 ≤ v88 ∧ v88 ≤ 1) ∧ Q (.inl (some (jI v88))) h88))))))))) ∧ (¬ (v42 = 0) → jCall d mX8_sort [jI a2] h42 (fun o h73_1 => ∃ v73_1, o = .inl (some (jI v73_1)) ∧ jCall d mX8_fits [jI 40, jI v73_1] h73_1 (fun o h76_1 => ∃ v76_1, o = .inl (some (jI v76_1)) ∧ ((v76_1 ≠ 0 → hK h76_1 a1 = 6 ∧ jCall d mX7_put [jR a1, jI 40] h76_1 (fun o h95_1 => o = .inl none ∧ hK h95_1 a0 = 7 ∧ (j32 (hI h95_1 605 a0) → ((v42 = 0 → jWp (d + 1) mX9_readPart 113 [(0, jR a0), (1, jR a1), (2, jI a2), (3, jI a3)] [jI 1, jI (hI h95_1 605 a0), jR a0] h95_1 Q) ∧ (¬ (v42 = 0) → jWp (d + 1) mX9_readPart 113 [(0, jR a0), (1, jR a1), (2, jI a2), (3, jI a3)] [jI 2, jI (hI h95_1 605 a0), jR a0] h95_1 Q))))) ∧ (v76_1 = 0 → hK h76_1 a0 = 7 ∧ (j32 (hI h76_1 605 a0) → jCall d mX9_refuse [jR a0, jI 4, jI (hI h76_1 605 a0)] h76_1 (fun o h88_1 => ∃ v88_1, o = .inl (some (jI v88_1)) ∧ (0 ≤ v88_1 ∧ v88_1 ≤ 1) ∧ Q (.inl (some (jI v88_1))) h88_1)))))))))) ∧ (¬ (v11 = 0) → ((a3 ≤ 0 → hK h11 a0 = 7 ∧ (j32 (hI h11 605 a0) → jCall d mX9_refuse [jR a0, jI 3, jI (hI h11 605 a0)] h11 (fun o h37 => ∃ v37, o = .inl (some (jI v37)) ∧ (0 ≤ v37 ∧ v37 ≤ 1) ∧ Q (.inl (some (jI v37))) h37))) ∧ (¬ (a3 ≤ 0) → jCall d mX8_mayBeShorter [jI a2] h11 (fun o h22 => ∃ v22, o = .inl (some (jI v22)) ∧ ((v22 = 0 → hK h22 a0 = 7 ∧ (j32 (hI h22 605 a0) → jCall d mX9_refuse [jR a0, jI 3, jI (hI h22 605 a0)] h22 (fun o h37_1 => ∃ v37_1, o = .inl (some (jI v37_1)) ∧ (0 ≤ v37_1 ∧ v37_1 ≤ 1) ∧ Q (.inl (some (jI v37_1))) h37_1))) ∧ (¬ (v22 = 0) → Q (.inl (some (jI 1))) h22)))))))))))) : jWp (d + 1) mX9_readPart 2 [(0, jR a0), (1, jR a1), (2, jI a2), (3, jI a3)] [] h Q := by
  refine jw_ok (fun ok q => ?_)
  replace k := k ok (q _ (.tail _ (.tail _ (.head _)))) (q _ (.tail _ (.tail _ (.tail _ (.head _)))))
  refine wp_iload_n 3 dX9_readPart_2 rfl ?_
  refine wp_iload_n 2 dX9_readPart_3 rfl ?_
  refine wp_callS (y' := mX8_mostBytes) (st := [jI a3]) [jI a2] rfl fX8_mostBytes kX9_139 nX8_mostBytes dX9_readPart_4 (Nat.le_of_ble_eq_true rfl) ?_
  refine jCall.mono k (fun o h4 k => ?_)
  obtain ⟨v4, e, k⟩ := k
  subst e
  show jWp (d + 1) mX9_readPart 7 [(0, jR a0), (1, jR a1), (2, jI a2), (3, jI a3)] [jI v4, jI a3] h4 Q
  refine wp_icmp_ge 123 dX9_readPart_7 rfl (fun q => ?_) (fun q => ?_)
  · replace k := k.1 q
    refine wp_iconst dX9_readPart_123 ⟨by decide, by decide⟩ ?_
    exact wp_zreturn dX9_readPart_124 rfl (by decide) (by decide) k
  · replace k := k.2 q
    refine wp_aload_n 0 dX9_readPart_10 rfl ?_
    have c1 := k.1
    replace k := k.2
    refine wp_callV (ci := 6) (y' := mX9_isValueOver) (st := []) [] rfl rfl rfl fX9_isValueOver kX9_124 nX9_isValueOver dX9_readPart_11 (Nat.le_of_ble_eq_true rfl) c1 ?_
    refine jCall.mono k (fun o h11 k => ?_)
    obtain ⟨v11, e, k⟩ := k
    subst e
    show jWp (d + 1) mX9_readPart 14 [(0, jR a0), (1, jR a1), (2, jI a2), (3, jI a3)] [jI v11] h11 Q
    refine wp_if_eq 41 dX9_readPart_14 rfl (fun q => ?_) (fun q => ?_)
    · replace k := k.1 q
      refine wp_aload_n 0 dX9_readPart_41 rfl ?_
      have c2 := k.1
      replace k := k.2
      refine wp_callV (ci := 6) (y' := mX9_isEscapedBracket) (st := []) [] rfl rfl rfl fX9_isEscapedBracket kX9_145 nX9_isEscapedBracket dX9_readPart_42 (Nat.le_of_ble_eq_true rfl) c2 ?_
      refine jCall.mono k (fun o h42 k => ?_)
      obtain ⟨v42, e, k⟩ := k
      subst e
      show jWp (d + 1) mX9_readPart 45 [(0, jR a0), (1, jR a1), (2, jI a2), (3, jI a3)] [jI v42] h42 Q
      refine wp_istore [1, 2, 3, 4, 0] (ls' := [(0, jR a0), (1, jR a1), (2, jI a2), (3, jI a3), (4, jI v42)]) dX9_readPart_45 (by decide) rfl ?_
      refine wp_iload 4 dX9_readPart_47 rfl ?_
      refine wp_if_eq 57 dX9_readPart_49 rfl (fun q => ?_) (fun q => ?_)
      · replace k := k.1 q
        refine wp_aload_n 0 dX9_readPart_57 rfl ?_
        have c3 := k.1
        replace k := k.2
        refine wp_getR (ci := 6) (j := 2) rfl (by decide) gX9_27 dX9_readPart_58 c3 rfl ?_
        refine wp_aload_n 0 dX9_readPart_61 rfl ?_
        refine wp_getI (ci := 6) (j := 5) rfl (by decide) gX9_44 dX9_readPart_62 c3 rfl (fun q => ?_)
        have f4 := q
        replace k := k q
        have c5 := k.1
        replace k := k.2
        refine wp_callV (ci := 5) (y' := mX7_at) (st := []) [jI (hI h42 605 a0)] rfl rfl rfl fX7_at kX9_66 nX7_at dX9_readPart_65 (Nat.le_of_ble_eq_true rfl) c5 ?_
        refine jCall.mono k (fun o h65 k => ?_)
        obtain ⟨v65, e, k⟩ := k
        subst e
        show jWp (d + 1) mX9_readPart 68 [(0, jR a0), (1, jR a1), (2, jI a2), (3, jI a3), (4, jI v42)] [jI v65] h65 Q
        refine wp_istore [1, 2, 3, 4, 5, 0] (ls' := [(0, jR a0), (1, jR a1), (2, jI a2), (3, jI a3), (4, jI v42), (5, jI v65)]) dX9_readPart_68 (by decide) rfl ?_
        refine wp_iload 5 dX9_readPart_70 rfl ?_
        refine wp_iload_n 2 dX9_readPart_72 rfl ?_
        refine wp_callS (y' := mX8_sort) (st := [jI v65]) [jI a2] rfl fX8_sort kX9_148 nX8_sort dX9_readPart_73 (Nat.le_of_ble_eq_true rfl) ?_
        refine jCall.mono k (fun o h73 k => ?_)
        obtain ⟨v73, e, k⟩ := k
        subst e
        show jWp (d + 1) mX9_readPart 76 [(0, jR a0), (1, jR a1), (2, jI a2), (3, jI a3), (4, jI v42), (5, jI v65)] [jI v73, jI v65] h73 Q
        refine wp_callS (y' := mX8_fits) (st := []) [jI v65, jI v73] rfl fX8_fits kX9_151 nX8_fits dX9_readPart_76 (Nat.le_of_ble_eq_true rfl) ?_
        refine jCall.mono k (fun o h76 k => ?_)
        obtain ⟨v76, e, k⟩ := k
        subst e
        show jWp (d + 1) mX9_readPart 79 [(0, jR a0), (1, jR a1), (2, jI a2), (3, jI a3), (4, jI v42), (5, jI v65)] [jI v76] h76 Q
        refine wp_if_ne 92 dX9_readPart_79 rfl (fun q => ?_) (fun q => ?_)
        · replace k := k.1 q
          refine wp_aload_n 1 dX9_readPart_92 rfl ?_
          refine wp_iload 5 dX9_readPart_93 rfl ?_
          have c6 := k.1
          replace k := k.2
          refine wp_callV (ci := 5) (y' := mX7_put) (st := []) [jI v65] rfl rfl rfl fX7_put kX9_107 nX7_put dX9_readPart_95 (Nat.le_of_ble_eq_true rfl) c6 ?_
          refine jCall.mono k (fun o h95 k => ?_)
          obtain ⟨e, k⟩ := k
          subst e
          show jWp (d + 1) mX9_readPart 98 [(0, jR a0), (1, jR a1), (2, jI a2), (3, jI a3), (4, jI v42), (5, jI v65)] [] h95 Q
          refine wp_aload_n 0 dX9_readPart_98 rfl ?_
          refine wp_dup dX9_readPart_99 rfl ?_
          have c7 := k.1
          replace k := k.2
          refine wp_getI (ci := 6) (j := 5) rfl (by decide) gX9_44 dX9_readPart_100 c7 rfl (fun q => ?_)
          have f8 := q
          replace k := k q
          refine wp_iload 4 dX9_readPart_103 rfl ?_
          refine wp_if_eq 112 dX9_readPart_105 rfl (fun q => ?_) (fun q => ?_)
          · replace k := k.1 q
            refine wp_iconst dX9_readPart_112 ⟨by decide, by decide⟩ ?_
            refine wp_sub [0, 1, 2, 3] (ls' := [(0, jR a0), (1, jR a1), (2, jI a2), (3, jI a3)]) rfl ?_
            exact k
          · replace k := k.2 q
            refine wp_iconst dX9_readPart_108 ⟨by decide, by decide⟩ ?_
            refine wp_goto 113 dX9_readPart_109 rfl ?_
            refine wp_sub [0, 1, 2, 3] (ls' := [(0, jR a0), (1, jR a1), (2, jI a2), (3, jI a3)]) rfl ?_
            exact k
        · replace k := k.2 q
          refine wp_aload_n 0 dX9_readPart_82 rfl ?_
          refine wp_iconst dX9_readPart_83 ⟨by decide, by decide⟩ ?_
          refine wp_aload_n 0 dX9_readPart_84 rfl ?_
          have c9 := k.1
          replace k := k.2
          refine wp_getI (ci := 6) (j := 5) rfl (by decide) gX9_44 dX9_readPart_85 c9 rfl (fun q => ?_)
          have f10 := q
          replace k := k q
          refine wp_callV (ci := 6) (y' := mX9_refuse) (st := []) [jI 4, jI (hI h76 605 a0)] rfl rfl rfl fX9_refuse kX9_74 nX9_refuse dX9_readPart_88 (Nat.le_of_ble_eq_true rfl) c9 ?_
          refine jCall.mono k (fun o h88 k => ?_)
          obtain ⟨v88, e, k⟩ := k
          subst e
          show jWp (d + 1) mX9_readPart 91 [(0, jR a0), (1, jR a1), (2, jI a2), (3, jI a3), (4, jI v42), (5, jI v65)] [jI v88] h88 Q
          have c11 := k.1
          replace k := k.2
          exact wp_zreturn dX9_readPart_91 rfl c11.1 c11.2 k
      · replace k := k.2 q
        refine wp_bipush dX9_readPart_52 ⟨by decide, by decide⟩ ?_
        refine wp_goto 68 dX9_readPart_54 rfl ?_
        refine wp_istore [1, 2, 3, 4, 5, 0] (ls' := [(0, jR a0), (1, jR a1), (2, jI a2), (3, jI a3), (4, jI v42), (5, jI 40)]) dX9_readPart_68 (by decide) rfl ?_
        refine wp_iload 5 dX9_readPart_70 rfl ?_
        refine wp_iload_n 2 dX9_readPart_72 rfl ?_
        refine wp_callS (y' := mX8_sort) (st := [jI 40]) [jI a2] rfl fX8_sort kX9_148 nX8_sort dX9_readPart_73 (Nat.le_of_ble_eq_true rfl) ?_
        refine jCall.mono k (fun o h73_1 k => ?_)
        obtain ⟨v73_1, e, k⟩ := k
        subst e
        show jWp (d + 1) mX9_readPart 76 [(0, jR a0), (1, jR a1), (2, jI a2), (3, jI a3), (4, jI v42), (5, jI 40)] [jI v73_1, jI 40] h73_1 Q
        refine wp_callS (y' := mX8_fits) (st := []) [jI 40, jI v73_1] rfl fX8_fits kX9_151 nX8_fits dX9_readPart_76 (Nat.le_of_ble_eq_true rfl) ?_
        refine jCall.mono k (fun o h76_1 k => ?_)
        obtain ⟨v76_1, e, k⟩ := k
        subst e
        show jWp (d + 1) mX9_readPart 79 [(0, jR a0), (1, jR a1), (2, jI a2), (3, jI a3), (4, jI v42), (5, jI 40)] [jI v76_1] h76_1 Q
        refine wp_if_ne 92 dX9_readPart_79 rfl (fun q => ?_) (fun q => ?_)
        · replace k := k.1 q
          refine wp_aload_n 1 dX9_readPart_92 rfl ?_
          refine wp_iload 5 dX9_readPart_93 rfl ?_
          have c12 := k.1
          replace k := k.2
          refine wp_callV (ci := 5) (y' := mX7_put) (st := []) [jI 40] rfl rfl rfl fX7_put kX9_107 nX7_put dX9_readPart_95 (Nat.le_of_ble_eq_true rfl) c12 ?_
          refine jCall.mono k (fun o h95_1 k => ?_)
          obtain ⟨e, k⟩ := k
          subst e
          show jWp (d + 1) mX9_readPart 98 [(0, jR a0), (1, jR a1), (2, jI a2), (3, jI a3), (4, jI v42), (5, jI 40)] [] h95_1 Q
          refine wp_aload_n 0 dX9_readPart_98 rfl ?_
          refine wp_dup dX9_readPart_99 rfl ?_
          have c13 := k.1
          replace k := k.2
          refine wp_getI (ci := 6) (j := 5) rfl (by decide) gX9_44 dX9_readPart_100 c13 rfl (fun q => ?_)
          have f14 := q
          replace k := k q
          refine wp_iload 4 dX9_readPart_103 rfl ?_
          refine wp_if_eq 112 dX9_readPart_105 rfl (fun q => ?_) (fun q => ?_)
          · replace k := k.1 q
            refine wp_iconst dX9_readPart_112 ⟨by decide, by decide⟩ ?_
            refine wp_sub [0, 1, 2, 3] (ls' := [(0, jR a0), (1, jR a1), (2, jI a2), (3, jI a3)]) rfl ?_
            exact k
          · replace k := k.2 q
            refine wp_iconst dX9_readPart_108 ⟨by decide, by decide⟩ ?_
            refine wp_goto 113 dX9_readPart_109 rfl ?_
            refine wp_sub [0, 1, 2, 3] (ls' := [(0, jR a0), (1, jR a1), (2, jI a2), (3, jI a3)]) rfl ?_
            exact k
        · replace k := k.2 q
          refine wp_aload_n 0 dX9_readPart_82 rfl ?_
          refine wp_iconst dX9_readPart_83 ⟨by decide, by decide⟩ ?_
          refine wp_aload_n 0 dX9_readPart_84 rfl ?_
          have c15 := k.1
          replace k := k.2
          refine wp_getI (ci := 6) (j := 5) rfl (by decide) gX9_44 dX9_readPart_85 c15 rfl (fun q => ?_)
          have f16 := q
          replace k := k q
          refine wp_callV (ci := 6) (y' := mX9_refuse) (st := []) [jI 4, jI (hI h76_1 605 a0)] rfl rfl rfl fX9_refuse kX9_74 nX9_refuse dX9_readPart_88 (Nat.le_of_ble_eq_true rfl) c15 ?_
          refine jCall.mono k (fun o h88_1 k => ?_)
          obtain ⟨v88_1, e, k⟩ := k
          subst e
          show jWp (d + 1) mX9_readPart 91 [(0, jR a0), (1, jR a1), (2, jI a2), (3, jI a3), (4, jI v42), (5, jI 40)] [jI v88_1] h88_1 Q
          have c17 := k.1
          replace k := k.2
          exact wp_zreturn dX9_readPart_91 rfl c17.1 c17.2 k
    · replace k := k.2 q
      refine wp_iload_n 3 dX9_readPart_17 rfl ?_
      refine wp_if_le 31 dX9_readPart_18 rfl (fun q => ?_) (fun q => ?_)
      · replace k := k.1 q
        refine wp_aload_n 0 dX9_readPart_31 rfl ?_
        refine wp_iconst dX9_readPart_32 ⟨by decide, by decide⟩ ?_
        refine wp_aload_n 0 dX9_readPart_33 rfl ?_
        have c18 := k.1
        replace k := k.2
        refine wp_getI (ci := 6) (j := 5) rfl (by decide) gX9_44 dX9_readPart_34 c18 rfl (fun q => ?_)
        have f19 := q
        replace k := k q
        refine wp_callV (ci := 6) (y' := mX9_refuse) (st := []) [jI 3, jI (hI h11 605 a0)] rfl rfl rfl fX9_refuse kX9_74 nX9_refuse dX9_readPart_37 (Nat.le_of_ble_eq_true rfl) c18 ?_
        refine jCall.mono k (fun o h37 k => ?_)
        obtain ⟨v37, e, k⟩ := k
        subst e
        show jWp (d + 1) mX9_readPart 40 [(0, jR a0), (1, jR a1), (2, jI a2), (3, jI a3)] [jI v37] h37 Q
        have c20 := k.1
        replace k := k.2
        exact wp_zreturn dX9_readPart_40 rfl c20.1 c20.2 k
      · replace k := k.2 q
        refine wp_iload_n 2 dX9_readPart_21 rfl ?_
        refine wp_callS (y' := mX8_mayBeShorter) (st := []) [jI a2] rfl fX8_mayBeShorter kX9_142 nX8_mayBeShorter dX9_readPart_22 (Nat.le_of_ble_eq_true rfl) ?_
        refine jCall.mono k (fun o h22 k => ?_)
        obtain ⟨v22, e, k⟩ := k
        subst e
        show jWp (d + 1) mX9_readPart 25 [(0, jR a0), (1, jR a1), (2, jI a2), (3, jI a3)] [jI v22] h22 Q
        refine wp_if_eq 31 dX9_readPart_25 rfl (fun q => ?_) (fun q => ?_)
        · replace k := k.1 q
          refine wp_aload_n 0 dX9_readPart_31 rfl ?_
          refine wp_iconst dX9_readPart_32 ⟨by decide, by decide⟩ ?_
          refine wp_aload_n 0 dX9_readPart_33 rfl ?_
          have c21 := k.1
          replace k := k.2
          refine wp_getI (ci := 6) (j := 5) rfl (by decide) gX9_44 dX9_readPart_34 c21 rfl (fun q => ?_)
          have f22 := q
          replace k := k q
          refine wp_callV (ci := 6) (y' := mX9_refuse) (st := []) [jI 3, jI (hI h22 605 a0)] rfl rfl rfl fX9_refuse kX9_74 nX9_refuse dX9_readPart_37 (Nat.le_of_ble_eq_true rfl) c21 ?_
          refine jCall.mono k (fun o h37_1 k => ?_)
          obtain ⟨v37_1, e, k⟩ := k
          subst e
          show jWp (d + 1) mX9_readPart 40 [(0, jR a0), (1, jR a1), (2, jI a2), (3, jI a3)] [jI v37_1] h37_1 Q
          have c23 := k.1
          replace k := k.2
          exact wp_zreturn dX9_readPart_40 rfl c23.1 c23.2 k
        · replace k := k.2 q
          refine wp_goto 123 dX9_readPart_28 rfl ?_
          refine wp_iconst dX9_readPart_123 ⟨by decide, by decide⟩ ?_
          exact wp_zreturn dX9_readPart_124 rfl (by decide) (by decide) k
theorem bX9_readPart_113 {d : Nat} {h : jH} {Q : jO → jH → Prop} {a0 : Nat} {a1 : Nat} {a2 : Int} {a3 : Int} {s0 : Int} {s1 : Int} {s2 : Nat} (k : jOK h → j32 a2 → j32 a3 → j32 (s1 + s0) ∧ hK h s2 = 7 ∧ j32 (a3 + 1) ∧ jWp (d + 1) mX9_readPart 2 [(0, jR a0), (1, jR a1), (2, jI a2), (3, jI (a3 + 1))] [] (sI h 605 s2 (s1 + s0)) Q) : jWp (d + 1) mX9_readPart 113 [(0, jR a0), (1, jR a1), (2, jI a2), (3, jI a3)] [jI s0, jI s1, jR s2] h Q := by
  refine jw_ok (fun ok q => ?_)
  replace k := k ok (q _ (.tail _ (.tail _ (.head _)))) (q _ (.tail _ (.tail _ (.tail _ (.head _)))))
  have c1 := k.1
  replace k := k.2
  refine wp_iadd dX9_readPart_113 c1 ?_
  have c2 := k.1
  replace k := k.2
  refine wp_putI (ci := 6) (j := 5) rfl (by decide) gX9_44 dX9_readPart_114 c2 (Or.inl rfl) rfl ?_
  have c3 := k.1
  replace k := k.2
  refine wp_iinc 3 [1, 2, 3, 0] (ls' := [(0, jR a0), (1, jR a1), (2, jI a2), (3, jI (a3 + 1))]) dX9_readPart_117 rfl c3 ⟨by decide, by decide⟩ (by decide) rfl ?_
  refine wp_goto 2 dX9_readPart_120 rfl ?_
  exact k
theorem bX9_isEscapedBracket {d : Nat} {h : jH} {Q : jO → jH → Prop} {a0 : Nat} (k : jOK h → hK h a0 = 7 ∧ (j32 (hI h 603 a0) → (((hI h 603 a0) = 0 → Q (.inl (some (jI 0))) h) ∧ (¬ ((hI h 603 a0) = 0) → (j32 (hI h 605 a0) → hK h (hR h 602 a0) = 6 ∧ jCall d mX7_at [jR (hR h 602 a0), jI (hI h 605 a0)] h (fun o h15 => ∃ v15, o = .inl (some (jI v15)) ∧ ((v15 ≠ 92 → Q (.inl (some (jI 0))) h15) ∧ (v15 = 92 → hK h15 a0 = 7 ∧ (j32 (hI h15 605 a0) → j32 ((hI h15 605 a0) + 1) ∧ hK h15 (hR h15 602 a0) = 6 ∧ jCall d mX7_at [jR (hR h15 602 a0), jI ((hI h15 605 a0) + 1)] h15 (fun o h33 => ∃ v33, o = .inl (some (jI v33)) ∧ ((v33 ≠ 40 → Q (.inl (some (jI 0))) h33) ∧ (v33 = 40 → Q (.inl (some (jI 1))) h33)))))))))))) : jCall (d + 1) mX9_isEscapedBracket [jR a0] h Q := by
  refine jCall_of plX9 (Nat.le_of_ble_eq_true rfl) ?_
  show jWp (d + 1) mX9_isEscapedBracket 0 [(0, jR a0)] [] h Q
  refine jw_ok (fun ok q => ?_)
  replace k := k ok 
  refine wp_aload_n 0 dX9_isEscapedBracket_0 rfl ?_
  have c1 := k.1
  replace k := k.2
  refine wp_getI (ci := 6) (j := 3) rfl (by decide) gX9_37 dX9_isEscapedBracket_1 c1 rfl (fun q => ?_)
  have f2 := q
  replace k := k q
  refine wp_if_eq 45 dX9_isEscapedBracket_4 rfl (fun q => ?_) (fun q => ?_)
  · replace k := k.1 q
    refine wp_iconst dX9_isEscapedBracket_45 ⟨by decide, by decide⟩ ?_
    exact wp_zreturn dX9_isEscapedBracket_46 rfl (by decide) (by decide) k
  · replace k := k.2 q
    refine wp_aload_n 0 dX9_isEscapedBracket_7 rfl ?_
    refine wp_getR (ci := 6) (j := 2) rfl (by decide) gX9_27 dX9_isEscapedBracket_8 c1 rfl ?_
    refine wp_aload_n 0 dX9_isEscapedBracket_11 rfl ?_
    refine wp_getI (ci := 6) (j := 5) rfl (by decide) gX9_44 dX9_isEscapedBracket_12 c1 rfl (fun q => ?_)
    have f3 := q
    replace k := k q
    have c4 := k.1
    replace k := k.2
    refine wp_callV (ci := 5) (y' := mX7_at) (st := []) [jI (hI h 605 a0)] rfl rfl rfl fX7_at kX9_66 nX7_at dX9_isEscapedBracket_15 (Nat.le_of_ble_eq_true rfl) c4 ?_
    refine jCall.mono k (fun o h15 k => ?_)
    obtain ⟨v15, e, k⟩ := k
    subst e
    show jWp (d + 1) mX9_isEscapedBracket 18 [(0, jR a0)] [jI v15] h15 Q
    refine wp_bipush dX9_isEscapedBracket_18 ⟨by decide, by decide⟩ ?_
    refine wp_icmp_ne 45 dX9_isEscapedBracket_20 rfl (fun q => ?_) (fun q => ?_)
    · replace k := k.1 q
      refine wp_iconst dX9_isEscapedBracket_45 ⟨by decide, by decide⟩ ?_
      exact wp_zreturn dX9_isEscapedBracket_46 rfl (by decide) (by decide) k
    · replace k := k.2 q
      refine wp_aload_n 0 dX9_isEscapedBracket_23 rfl ?_
      have c5 := k.1
      replace k := k.2
      refine wp_getR (ci := 6) (j := 2) rfl (by decide) gX9_27 dX9_isEscapedBracket_24 c5 rfl ?_
      refine wp_aload_n 0 dX9_isEscapedBracket_27 rfl ?_
      refine wp_getI (ci := 6) (j := 5) rfl (by decide) gX9_44 dX9_isEscapedBracket_28 c5 rfl (fun q => ?_)
      have f6 := q
      replace k := k q
      refine wp_iconst dX9_isEscapedBracket_31 ⟨by decide, by decide⟩ ?_
      have c7 := k.1
      replace k := k.2
      refine wp_iadd dX9_isEscapedBracket_32 c7 ?_
      have c8 := k.1
      replace k := k.2
      refine wp_callV (ci := 5) (y' := mX7_at) (st := []) [jI ((hI h15 605 a0) + 1)] rfl rfl rfl fX7_at kX9_66 nX7_at dX9_isEscapedBracket_33 (Nat.le_of_ble_eq_true rfl) c8 ?_
      refine jCall.mono k (fun o h33 k => ?_)
      obtain ⟨v33, e, k⟩ := k
      subst e
      show jWp (d + 1) mX9_isEscapedBracket 36 [(0, jR a0)] [jI v33] h33 Q
      refine wp_bipush dX9_isEscapedBracket_36 ⟨by decide, by decide⟩ ?_
      refine wp_icmp_ne 45 dX9_isEscapedBracket_38 rfl (fun q => ?_) (fun q => ?_)
      · replace k := k.1 q
        refine wp_iconst dX9_isEscapedBracket_45 ⟨by decide, by decide⟩ ?_
        exact wp_zreturn dX9_isEscapedBracket_46 rfl (by decide) (by decide) k
      · replace k := k.2 q
        refine wp_iconst dX9_isEscapedBracket_41 ⟨by decide, by decide⟩ ?_
        refine wp_goto 46 dX9_isEscapedBracket_42 rfl ?_
        exact wp_zreturn dX9_isEscapedBracket_46 rfl (by decide) (by decide) k
theorem bX9_judgePart {d : Nat} {h : jH} {Q : jO → jH → Prop} {a0 : Nat} {a1 : Nat} {a2 : Int} {a3 : Int} {a4 : Int} (k : jOK h → j32 a2 → j32 a3 → j32 a4 → jCall d mX8_sort [jI a2] h (fun o h1 => ∃ v1, o = .inl (some (jI v1)) ∧ ((v1 = 3 → hK h1 a0 = 7 ∧ jCall d mX9_isKey [jR a0, jR a1, jI a3] h1 (fun o h35 => ∃ v35, o = .inl (some (jI v35)) ∧ ((v35 ≠ 0 → Q (.inl (some (jI 1))) h35) ∧ (v35 = 0 → hK h35 a0 = 7 ∧ (j32 (hI h35 605 a0) → j32 ((hI h35 605 a0) - 1) ∧ jCall d mX9_refuse [jR a0, jI 5, jI ((hI h35 605 a0) - 1)] h35 (fun o h49 => ∃ v49, o = .inl (some (jI v49)) ∧ ((v49 = 0 → Q (.inl (some (jI 0))) h49) ∧ (¬ (v49 = 0) → Q (.inl (some (jI 1))) h49)))))))) ∧ (v1 = 4 → hK h1 a0 = 7 ∧ jCall d mX9_isDate [jR a0, jR a1, jI a3] h1 (fun o h64 => ∃ v64, o = .inl (some (jI v64)) ∧ ((v64 ≠ 0 → Q (.inl (some (jI 1))) h64) ∧ (v64 = 0 → hK h64 a0 = 7 ∧ jCall d mX9_refuse [jR a0, jI 6, jI a4] h64 (fun o h75 => ∃ v75, o = .inl (some (jI v75)) ∧ ((v75 = 0 → Q (.inl (some (jI 0))) h75) ∧ (¬ (v75 = 0) → Q (.inl (some (jI 1))) h75))))))) ∧ (v1 = 5 → hK h1 a0 = 7 ∧ jCall d mX9_isTime [jR a0, jR a1, jI a3] h1 (fun o h90 => ∃ v90, o = .inl (some (jI v90)) ∧ ((v90 ≠ 0 → Q (.inl (some (jI 1))) h90) ∧ (v90 = 0 → hK h90 a0 = 7 ∧ jCall d mX9_refuse [jR a0, jI 6, jI a4] h90 (fun o h101 => ∃ v101, o = .inl (some (jI v101)) ∧ ((v101 = 0 → Q (.inl (some (jI 0))) h101) ∧ (¬ (v101 = 0) → Q (.inl (some (jI 1))) h101))))))) ∧ (v1 ≠ 3 → v1 ≠ 4 → v1 ≠ 5 → Q (.inl (some (jI 1))) h1)))) : jCall (d + 1) mX9_judgePart [jR a0, jR a1, jI a2, jI a3, jI a4] h Q := by
  refine jCall_of plX9 (Nat.le_of_ble_eq_true rfl) ?_
  show jWp (d + 1) mX9_judgePart 0 [(0, jR a0), (1, jR a1), (2, jI a2), (3, jI a3), (4, jI a4)] [] h Q
  refine jw_ok (fun ok q => ?_)
  replace k := k ok (q _ (.tail _ (.tail _ (.head _)))) (q _ (.tail _ (.tail _ (.tail _ (.head _))))) (q _ (.tail _ (.tail _ (.tail _ (.tail _ (.head _))))))
  refine wp_iload_n 2 dX9_judgePart_0 rfl ?_
  refine wp_callS (y' := mX8_sort) (st := []) [jI a2] rfl fX8_sort kX9_148 nX8_sort dX9_judgePart_1 (Nat.le_of_ble_eq_true rfl) ?_
  refine jCall.mono k (fun o h1 k => ?_)
  obtain ⟨v1, e, k⟩ := k
  subst e
  show jWp (d + 1) mX9_judgePart 4 [(0, jR a0), (1, jR a1), (2, jI a2), (3, jI a3), (4, jI a4)] [jI v1] h1 Q
  refine wp_table dX9_judgePart_4 113 rfl (fun q => ?_) (fun q q9 => ?_)
  · replace k := k.2.2.2 (by omega) (by omega) (by omega)
    refine wp_iconst dX9_judgePart_113 ⟨by decide, by decide⟩ ?_
    exact wp_zreturn dX9_judgePart_114 rfl (by decide) (by decide) k
  · have q8 : v1 = 3 ∨ v1 = 4 ∨ v1 = 5 := by omega
    rcases q8 with q8 | q8 | q8
    · refine ⟨28, 32, by rw [q8]; rfl, rfl, ?_⟩
      replace k := k.1 q8
      refine wp_aload_n 0 dX9_judgePart_32 rfl ?_
      refine wp_aload_n 1 dX9_judgePart_33 rfl ?_
      refine wp_iload_n 3 dX9_judgePart_34 rfl ?_
      have c1 := k.1
      replace k := k.2
      refine wp_callV (ci := 6) (y' := mX9_isKey) (st := []) [jR a1, jI a3] rfl rfl rfl fX9_isKey kX9_154 nX9_isKey dX9_judgePart_35 (Nat.le_of_ble_eq_true rfl) c1 ?_
      refine jCall.mono k (fun o h35 k => ?_)
      obtain ⟨v35, e, k⟩ := k
      subst e
      show jWp (d + 1) mX9_judgePart 38 [(0, jR a0), (1, jR a1), (2, jI a2), (3, jI a3), (4, jI a4)] [jI v35] h35 Q
      refine wp_if_ne 55 dX9_judgePart_38 rfl (fun q => ?_) (fun q => ?_)
      · replace k := k.1 q
        refine wp_iconst dX9_judgePart_55 ⟨by decide, by decide⟩ ?_
        refine wp_goto 60 dX9_judgePart_56 rfl ?_
        exact wp_zreturn dX9_judgePart_60 rfl (by decide) (by decide) k
      · replace k := k.2 q
        refine wp_aload_n 0 dX9_judgePart_41 rfl ?_
        refine wp_iconst dX9_judgePart_42 ⟨by decide, by decide⟩ ?_
        refine wp_aload_n 0 dX9_judgePart_43 rfl ?_
        have c2 := k.1
        replace k := k.2
        refine wp_getI (ci := 6) (j := 5) rfl (by decide) gX9_44 dX9_judgePart_44 c2 rfl (fun q => ?_)
        have f3 := q
        replace k := k q
        refine wp_iconst dX9_judgePart_47 ⟨by decide, by decide⟩ ?_
        have c4 := k.1
        replace k := k.2
        refine wp_isub dX9_judgePart_48 c4 ?_
        refine wp_callV (ci := 6) (y' := mX9_refuse) (st := []) [jI 5, jI ((hI h35 605 a0) - 1)] rfl rfl rfl fX9_refuse kX9_74 nX9_refuse dX9_judgePart_49 (Nat.le_of_ble_eq_true rfl) c2 ?_
        refine jCall.mono k (fun o h49 k => ?_)
        obtain ⟨v49, e, k⟩ := k
        subst e
        show jWp (d + 1) mX9_judgePart 52 [(0, jR a0), (1, jR a1), (2, jI a2), (3, jI a3), (4, jI a4)] [jI v49] h49 Q
        refine wp_if_eq 59 dX9_judgePart_52 rfl (fun q => ?_) (fun q => ?_)
        · replace k := k.1 q
          refine wp_iconst dX9_judgePart_59 ⟨by decide, by decide⟩ ?_
          exact wp_zreturn dX9_judgePart_60 rfl (by decide) (by decide) k
        · replace k := k.2 q
          refine wp_iconst dX9_judgePart_55 ⟨by decide, by decide⟩ ?_
          refine wp_goto 60 dX9_judgePart_56 rfl ?_
          exact wp_zreturn dX9_judgePart_60 rfl (by decide) (by decide) k
    · refine ⟨57, 61, by rw [q8]; rfl, rfl, ?_⟩
      replace k := k.2.1 q8
      refine wp_aload_n 0 dX9_judgePart_61 rfl ?_
      refine wp_aload_n 1 dX9_judgePart_62 rfl ?_
      refine wp_iload_n 3 dX9_judgePart_63 rfl ?_
      have c5 := k.1
      replace k := k.2
      refine wp_callV (ci := 6) (y' := mX9_isDate) (st := []) [jR a1, jI a3] rfl rfl rfl fX9_isDate kX9_157 nX9_isDate dX9_judgePart_64 (Nat.le_of_ble_eq_true rfl) c5 ?_
      refine jCall.mono k (fun o h64 k => ?_)
      obtain ⟨v64, e, k⟩ := k
      subst e
      show jWp (d + 1) mX9_judgePart 67 [(0, jR a0), (1, jR a1), (2, jI a2), (3, jI a3), (4, jI a4)] [jI v64] h64 Q
      refine wp_if_ne 81 dX9_judgePart_67 rfl (fun q => ?_) (fun q => ?_)
      · replace k := k.1 q
        refine wp_iconst dX9_judgePart_81 ⟨by decide, by decide⟩ ?_
        refine wp_goto 86 dX9_judgePart_82 rfl ?_
        exact wp_zreturn dX9_judgePart_86 rfl (by decide) (by decide) k
      · replace k := k.2 q
        refine wp_aload_n 0 dX9_judgePart_70 rfl ?_
        refine wp_bipush dX9_judgePart_71 ⟨by decide, by decide⟩ ?_
        refine wp_iload 4 dX9_judgePart_73 rfl ?_
        have c6 := k.1
        replace k := k.2
        refine wp_callV (ci := 6) (y' := mX9_refuse) (st := []) [jI 6, jI a4] rfl rfl rfl fX9_refuse kX9_74 nX9_refuse dX9_judgePart_75 (Nat.le_of_ble_eq_true rfl) c6 ?_
        refine jCall.mono k (fun o h75 k => ?_)
        obtain ⟨v75, e, k⟩ := k
        subst e
        show jWp (d + 1) mX9_judgePart 78 [(0, jR a0), (1, jR a1), (2, jI a2), (3, jI a3), (4, jI a4)] [jI v75] h75 Q
        refine wp_if_eq 85 dX9_judgePart_78 rfl (fun q => ?_) (fun q => ?_)
        · replace k := k.1 q
          refine wp_iconst dX9_judgePart_85 ⟨by decide, by decide⟩ ?_
          exact wp_zreturn dX9_judgePart_86 rfl (by decide) (by decide) k
        · replace k := k.2 q
          refine wp_iconst dX9_judgePart_81 ⟨by decide, by decide⟩ ?_
          refine wp_goto 86 dX9_judgePart_82 rfl ?_
          exact wp_zreturn dX9_judgePart_86 rfl (by decide) (by decide) k
    · refine ⟨83, 87, by rw [q8]; rfl, rfl, ?_⟩
      replace k := k.2.2.1 q8
      refine wp_aload_n 0 dX9_judgePart_87 rfl ?_
      refine wp_aload_n 1 dX9_judgePart_88 rfl ?_
      refine wp_iload_n 3 dX9_judgePart_89 rfl ?_
      have c7 := k.1
      replace k := k.2
      refine wp_callV (ci := 6) (y' := mX9_isTime) (st := []) [jR a1, jI a3] rfl rfl rfl fX9_isTime kX9_160 nX9_isTime dX9_judgePart_90 (Nat.le_of_ble_eq_true rfl) c7 ?_
      refine jCall.mono k (fun o h90 k => ?_)
      obtain ⟨v90, e, k⟩ := k
      subst e
      show jWp (d + 1) mX9_judgePart 93 [(0, jR a0), (1, jR a1), (2, jI a2), (3, jI a3), (4, jI a4)] [jI v90] h90 Q
      refine wp_if_ne 107 dX9_judgePart_93 rfl (fun q => ?_) (fun q => ?_)
      · replace k := k.1 q
        refine wp_iconst dX9_judgePart_107 ⟨by decide, by decide⟩ ?_
        refine wp_goto 112 dX9_judgePart_108 rfl ?_
        exact wp_zreturn dX9_judgePart_112 rfl (by decide) (by decide) k
      · replace k := k.2 q
        refine wp_aload_n 0 dX9_judgePart_96 rfl ?_
        refine wp_bipush dX9_judgePart_97 ⟨by decide, by decide⟩ ?_
        refine wp_iload 4 dX9_judgePart_99 rfl ?_
        have c8 := k.1
        replace k := k.2
        refine wp_callV (ci := 6) (y' := mX9_refuse) (st := []) [jI 6, jI a4] rfl rfl rfl fX9_refuse kX9_74 nX9_refuse dX9_judgePart_101 (Nat.le_of_ble_eq_true rfl) c8 ?_
        refine jCall.mono k (fun o h101 k => ?_)
        obtain ⟨v101, e, k⟩ := k
        subst e
        show jWp (d + 1) mX9_judgePart 104 [(0, jR a0), (1, jR a1), (2, jI a2), (3, jI a3), (4, jI a4)] [jI v101] h101 Q
        refine wp_if_eq 111 dX9_judgePart_104 rfl (fun q => ?_) (fun q => ?_)
        · replace k := k.1 q
          refine wp_iconst dX9_judgePart_111 ⟨by decide, by decide⟩ ?_
          exact wp_zreturn dX9_judgePart_112 rfl (by decide) (by decide) k
        · replace k := k.2 q
          refine wp_iconst dX9_judgePart_107 ⟨by decide, by decide⟩ ?_
          refine wp_goto 112 dX9_judgePart_108 rfl ?_
          exact wp_zreturn dX9_judgePart_112 rfl (by decide) (by decide) k
theorem bX9_isKey {d : Nat} {h : jH} {Q : jO → jH → Prop} {a0 : Nat} {a1 : Nat} {a2 : Int} (k : jOK h → j32 a2 → hK h a1 = 6 ∧ jCall d mX7_count [jR a1] h (fun o h1 => ∃ v1, o = .inl (some (jI v1)) ∧ j32 (v1 - 1) ∧ hK h1 a1 = 6 ∧ jCall d mX7_at [jR a1, jI (v1 - 1)] h1 (fun o h9 => ∃ v9, o = .inl (some (jI v9)) ∧ j32 (v9 - 48) ∧ j32 ((v1 - 1) - a2) ∧ hK h9 a1 = 6 ∧ jCall d mX7_checkDigit [jR a1, jI a2, jI ((v1 - 1) - a2)] h9 (fun o h20 => ∃ v20, o = .inl (some (jI v20)) ∧ (((v9 - 48) ≠ v20 → Q (.inl (some (jI 0))) h20) ∧ ((v9 - 48) = v20 → Q (.inl (some (jI 1))) h20)))))) : jCall (d + 1) mX9_isKey [jR a0, jR a1, jI a2] h Q := by
  refine jCall_of plX9 (Nat.le_of_ble_eq_true rfl) ?_
  show jWp (d + 1) mX9_isKey 0 [(0, jR a0), (1, jR a1), (2, jI a2)] [] h Q
  refine jw_ok (fun ok q => ?_)
  replace k := k ok (q _ (.tail _ (.tail _ (.head _))))
  refine wp_aload_n 1 dX9_isKey_0 rfl ?_
  have c1 := k.1
  replace k := k.2
  refine wp_callV (ci := 5) (y' := mX7_count) (st := []) [] rfl rfl rfl fX7_count kX9_62 nX7_count dX9_isKey_1 (Nat.le_of_ble_eq_true rfl) c1 ?_
  refine jCall.mono k (fun o h1 k => ?_)
  obtain ⟨v1, e, k⟩ := k
  subst e
  show jWp (d + 1) mX9_isKey 4 [(0, jR a0), (1, jR a1), (2, jI a2)] [jI v1] h1 Q
  refine wp_iconst dX9_isKey_4 ⟨by decide, by decide⟩ ?_
  have c2 := k.1
  replace k := k.2
  refine wp_isub dX9_isKey_5 c2 ?_
  refine wp_istore_n [2, 3, 0] (ls' := [(1, jR a1), (2, jI a2), (3, jI (v1 - 1))]) dX9_isKey_6 (by decide) rfl ?_
  refine wp_aload_n 0 dX9_isKey_7 rfl ?_
  refine wp_iload_n 2 dX9_isKey_8 rfl ?_
  have c3 := k.1
  replace k := k.2
  refine wp_callV (ci := 5) (y' := mX7_at) (st := []) [jI (v1 - 1)] rfl rfl rfl fX7_at kX9_66 nX7_at dX9_isKey_9 (Nat.le_of_ble_eq_true rfl) c3 ?_
  refine jCall.mono k (fun o h9 k => ?_)
  obtain ⟨v9, e, k⟩ := k
  subst e
  show jWp (d + 1) mX9_isKey 12 [(1, jR a1), (2, jI a2), (3, jI (v1 - 1))] [jI v9] h9 Q
  refine wp_bipush dX9_isKey_12 ⟨by decide, by decide⟩ ?_
  have c4 := k.1
  replace k := k.2
  refine wp_isub dX9_isKey_14 c4 ?_
  refine wp_aload_n 0 dX9_isKey_15 rfl ?_
  refine wp_iload_n 1 dX9_isKey_16 rfl ?_
  refine wp_iload_n 2 dX9_isKey_17 rfl ?_
  refine wp_iload_n 1 dX9_isKey_18 rfl ?_
  have c5 := k.1
  replace k := k.2
  refine wp_isub dX9_isKey_19 c5 ?_
  have c6 := k.1
  replace k := k.2
  refine wp_callV (ci := 5) (y' := mX7_checkDigit) (st := [jI (v9 - 48)]) [jI a2, jI ((v1 - 1) - a2)] rfl rfl rfl fX7_checkDigit kX9_163 nX7_checkDigit dX9_isKey_20 (Nat.le_of_ble_eq_true rfl) c6 ?_
  refine jCall.mono k (fun o h20 k => ?_)
  obtain ⟨v20, e, k⟩ := k
  subst e
  show jWp (d + 1) mX9_isKey 23 [(1, jR a1), (2, jI a2), (3, jI (v1 - 1))] [jI v20, jI (v9 - 48)] h20 Q
  refine wp_icmp_ne 30 dX9_isKey_23 rfl (fun q => ?_) (fun q => ?_)
  · replace k := k.1 q
    refine wp_iconst dX9_isKey_30 ⟨by decide, by decide⟩ ?_
    exact wp_zreturn dX9_isKey_31 rfl (by decide) (by decide) k
  · replace k := k.2 q
    refine wp_iconst dX9_isKey_26 ⟨by decide, by decide⟩ ?_
    refine wp_goto 31 dX9_isKey_27 rfl ?_
    exact wp_zreturn dX9_isKey_31 rfl (by decide) (by decide) k
theorem bX9_isDate {d : Nat} {h : jH} {Q : jO → jH → Prop} {a0 : Nat} {a1 : Nat} {a2 : Int} (k : jOK h → j32 a2 → hK h a1 = 6 ∧ jCall d mX7_twoDigits [jR a1, jI a2] h (fun o h2 => ∃ v2, o = .inl (some (jI v2)) ∧ hK h2 a0 = 7 ∧ (j32 (hI h2 604 a0) → jCall d mX3_yearMeant [jI v2, jI (hI h2 604 a0)] h2 (fun o h9 => ∃ v9, o = .inl (some (jI v9)) ∧ j32 (a2 + 2) ∧ hK h9 a1 = 6 ∧ jCall d mX7_twoDigits [jR a1, jI (a2 + 2)] h9 (fun o h18 => ∃ v18, o = .inl (some (jI v18)) ∧ j32 (a2 + 4) ∧ hK h18 a1 = 6 ∧ jCall d mX7_twoDigits [jR a1, jI (a2 + 4)] h18 (fun o h25 => ∃ v25, o = .inl (some (jI v25)) ∧ jCall d mX3_isDate [jI v9, jI v18, jI v25] h25 (fun o h28 => ∃ v28, o = .inl (some (jI v28)) ∧ (0 ≤ v28 ∧ v28 ≤ 1) ∧ Q (.inl (some (jI v28))) h28))))))) : jCall (d + 1) mX9_isDate [jR a0, jR a1, jI a2] h Q := by
  refine jCall_of plX9 (Nat.le_of_ble_eq_true rfl) ?_
  show jWp (d + 1) mX9_isDate 0 [(0, jR a0), (1, jR a1), (2, jI a2)] [] h Q
  refine jw_ok (fun ok q => ?_)
  replace k := k ok (q _ (.tail _ (.tail _ (.head _))))
  refine wp_aload_n 1 dX9_isDate_0 rfl ?_
  refine wp_iload_n 2 dX9_isDate_1 rfl ?_
  have c1 := k.1
  replace k := k.2
  refine wp_callV (ci := 5) (y' := mX7_twoDigits) (st := []) [jI a2] rfl rfl rfl fX7_twoDigits kX9_166 nX7_twoDigits dX9_isDate_2 (Nat.le_of_ble_eq_true rfl) c1 ?_
  refine jCall.mono k (fun o h2 k => ?_)
  obtain ⟨v2, e, k⟩ := k
  subst e
  show jWp (d + 1) mX9_isDate 5 [(0, jR a0), (1, jR a1), (2, jI a2)] [jI v2] h2 Q
  refine wp_aload_n 0 dX9_isDate_5 rfl ?_
  have c2 := k.1
  replace k := k.2
  refine wp_getI (ci := 6) (j := 4) rfl (by decide) gX9_41 dX9_isDate_6 c2 rfl (fun q => ?_)
  have f3 := q
  replace k := k q
  refine wp_callS (y' := mX3_yearMeant) (st := []) [jI v2, jI (hI h2 604 a0)] rfl fX3_yearMeant kX9_169 nX3_yearMeant dX9_isDate_9 (Nat.le_of_ble_eq_true rfl) ?_
  refine jCall.mono k (fun o h9 k => ?_)
  obtain ⟨v9, e, k⟩ := k
  subst e
  show jWp (d + 1) mX9_isDate 12 [(0, jR a0), (1, jR a1), (2, jI a2)] [jI v9] h9 Q
  refine wp_istore_n [2, 3, 0] (ls' := [(1, jR a1), (2, jI a2), (3, jI v9)]) dX9_isDate_12 (by decide) rfl ?_
  refine wp_iload_n 2 dX9_isDate_13 rfl ?_
  refine wp_aload_n 0 dX9_isDate_14 rfl ?_
  refine wp_iload_n 1 dX9_isDate_15 rfl ?_
  refine wp_iconst dX9_isDate_16 ⟨by decide, by decide⟩ ?_
  have c4 := k.1
  replace k := k.2
  refine wp_iadd dX9_isDate_17 c4 ?_
  have c5 := k.1
  replace k := k.2
  refine wp_callV (ci := 5) (y' := mX7_twoDigits) (st := [jI v9]) [jI (a2 + 2)] rfl rfl rfl fX7_twoDigits kX9_166 nX7_twoDigits dX9_isDate_18 (Nat.le_of_ble_eq_true rfl) c5 ?_
  refine jCall.mono k (fun o h18 k => ?_)
  obtain ⟨v18, e, k⟩ := k
  subst e
  show jWp (d + 1) mX9_isDate 21 [(1, jR a1), (2, jI a2), (3, jI v9)] [jI v18, jI v9] h18 Q
  refine wp_aload_n 0 dX9_isDate_21 rfl ?_
  refine wp_iload_n 1 dX9_isDate_22 rfl ?_
  refine wp_iconst dX9_isDate_23 ⟨by decide, by decide⟩ ?_
  have c6 := k.1
  replace k := k.2
  refine wp_iadd dX9_isDate_24 c6 ?_
  have c7 := k.1
  replace k := k.2
  refine wp_callV (ci := 5) (y' := mX7_twoDigits) (st := [jI v18, jI v9]) [jI (a2 + 4)] rfl rfl rfl fX7_twoDigits kX9_166 nX7_twoDigits dX9_isDate_25 (Nat.le_of_ble_eq_true rfl) c7 ?_
  refine jCall.mono k (fun o h25 k => ?_)
  obtain ⟨v25, e, k⟩ := k
  subst e
  show jWp (d + 1) mX9_isDate 28 [(1, jR a1), (2, jI a2), (3, jI v9)] [jI v25, jI v18, jI v9] h25 Q
  refine wp_callS (y' := mX3_isDate) (st := []) [jI v9, jI v18, jI v25] rfl fX3_isDate kX9_174 nX3_isDate dX9_isDate_28 (Nat.le_of_ble_eq_true rfl) ?_
  refine jCall.mono k (fun o h28 k => ?_)
  obtain ⟨v28, e, k⟩ := k
  subst e
  show jWp (d + 1) mX9_isDate 31 [(1, jR a1), (2, jI a2), (3, jI v9)] [jI v28] h28 Q
  have c8 := k.1
  replace k := k.2
  exact wp_zreturn dX9_isDate_31 rfl c8.1 c8.2 k
theorem bX9_isTime {d : Nat} {h : jH} {Q : jO → jH → Prop} {a0 : Nat} {a1 : Nat} {a2 : Int} (k : jOK h → j32 a2 → hK h a1 = 6 ∧ jCall d mX7_twoDigits [jR a1, jI a2] h (fun o h2 => ∃ v2, o = .inl (some (jI v2)) ∧ j32 (a2 + 2) ∧ hK h2 a1 = 6 ∧ jCall d mX7_twoDigits [jR a1, jI (a2 + 2)] h2 (fun o h9 => ∃ v9, o = .inl (some (jI v9)) ∧ jCall d mX3_isTime [jI v2, jI v9] h9 (fun o h12 => ∃ v12, o = .inl (some (jI v12)) ∧ (0 ≤ v12 ∧ v12 ≤ 1) ∧ Q (.inl (some (jI v12))) h12)))) : jCall (d + 1) mX9_isTime [jR a0, jR a1, jI a2] h Q := by
  refine jCall_of plX9 (Nat.le_of_ble_eq_true rfl) ?_
  show jWp (d + 1) mX9_isTime 0 [(0, jR a0), (1, jR a1), (2, jI a2)] [] h Q
  refine jw_ok (fun ok q => ?_)
  replace k := k ok (q _ (.tail _ (.tail _ (.head _))))
  refine wp_aload_n 1 dX9_isTime_0 rfl ?_
  refine wp_iload_n 2 dX9_isTime_1 rfl ?_
  have c1 := k.1
  replace k := k.2
  refine wp_callV (ci := 5) (y' := mX7_twoDigits) (st := []) [jI a2] rfl rfl rfl fX7_twoDigits kX9_166 nX7_twoDigits dX9_isTime_2 (Nat.le_of_ble_eq_true rfl) c1 ?_
  refine jCall.mono k (fun o h2 k => ?_)
  obtain ⟨v2, e, k⟩ := k
  subst e
  show jWp (d + 1) mX9_isTime 5 [(0, jR a0), (1, jR a1), (2, jI a2)] [jI v2] h2 Q
  refine wp_aload_n 1 dX9_isTime_5 rfl ?_
  refine wp_iload_n 2 dX9_isTime_6 rfl ?_
  refine wp_iconst dX9_isTime_7 ⟨by decide, by decide⟩ ?_
  have c2 := k.1
  replace k := k.2
  refine wp_iadd dX9_isTime_8 c2 ?_
  have c3 := k.1
  replace k := k.2
  refine wp_callV (ci := 5) (y' := mX7_twoDigits) (st := [jI v2]) [jI (a2 + 2)] rfl rfl rfl fX7_twoDigits kX9_166 nX7_twoDigits dX9_isTime_9 (Nat.le_of_ble_eq_true rfl) c3 ?_
  refine jCall.mono k (fun o h9 k => ?_)
  obtain ⟨v9, e, k⟩ := k
  subst e
  show jWp (d + 1) mX9_isTime 12 [(0, jR a0), (1, jR a1), (2, jI a2)] [jI v9, jI v2] h9 Q
  refine wp_callS (y' := mX3_isTime) (st := []) [jI v2, jI v9] rfl fX3_isTime kX9_177 nX3_isTime dX9_isTime_12 (Nat.le_of_ble_eq_true rfl) ?_
  refine jCall.mono k (fun o h12 k => ?_)
  obtain ⟨v12, e, k⟩ := k
  subst e
  show jWp (d + 1) mX9_isTime 15 [(0, jR a0), (1, jR a1), (2, jI a2)] [jI v12] h12 Q
  have c4 := k.1
  replace k := k.2
  exact wp_zreturn dX9_isTime_15 rfl c4.1 c4.2 k
theorem bX9_judgeTogether {d : Nat} {h : jH} {Q : jO → jH → Prop} {a0 : Nat} {a1 : Int} (k : jOK h → j32 a1 → jWp (d + 1) mX9_judgeTogether 2 [(0, jR a0), (1, jI a1), (2, jI 0)] [] h Q) : jCall (d + 1) mX9_judgeTogether [jR a0, jI a1] h Q := by
  refine jCall_of plX9 (Nat.le_of_ble_eq_true rfl) ?_
  show jWp (d + 1) mX9_judgeTogether 0 [(0, jR a0), (1, jI a1)] [] h Q
  refine jw_ok (fun ok q => ?_)
  replace k := k ok (q _ (.tail _ (.head _)))
  refine wp_iconst dX9_judgeTogether_0 ⟨by decide, by decide⟩ ?_
  refine wp_istore_n [1, 2, 0] (ls' := [(0, jR a0), (1, jI a1), (2, jI 0)]) dX9_judgeTogether_1 (by decide) rfl ?_
  exact k
theorem bX9_judgeTogether_2 {d : Nat} {h : jH} {Q : jO → jH → Prop} {a0 : Nat} {a1 : Int} {a2 : Int} (k : jOK h → j32 a1 → j32 a2 → hK h a0 = 7 ∧ hK h (hR h 600 a0) = 5 ∧ jCall d mX6_count [jR (hR h 600 a0)] h (fun o h7 => ∃ v7, o = .inl (some (jI v7)) ∧ ((v7 ≤ a2 → Q (.inl none) h7) ∧ (¬ (v7 ≤ a2) → hK h7 a0 = 7 ∧ hK h7 (hR h7 600 a0) = 5 ∧ jCall d mX6_isRepeated [jR (hR h7 600 a0), jI a2] h7 (fun o h18 => ∃ v18, o = .inl (some (jI v18)) ∧ ((v18 = 0 → ((a1 = 0 → j32 (a2 + 1) ∧ jWp (d + 1) mX9_judgeTogether 2 [(0, jR a0), (1, jI a1), (2, jI (a2 + 1))] [] h18 Q) ∧ (¬ (a1 = 0) → hK h18 a0 = 7 ∧ hK h18 (hR h18 600 a0) = 5 ∧ jCall d mX6_isWantMet [jR (hR h18 600 a0), jI a2] h18 (fun o h49 => ∃ v49, o = .inl (some (jI v49)) ∧ ((v49 ≠ 0 → j32 (a2 + 1) ∧ jWp (d + 1) mX9_judgeTogether 2 [(0, jR a0), (1, jI a1), (2, jI (a2 + 1))] [] h49 Q) ∧ (v49 = 0 → hK h49 a0 = 7 ∧ hK h49 (hR h49 601 a0) = 6 ∧ jCall d mX7_at [jR (hR h49 601 a0), jI a2] h49 (fun o h63 => ∃ v63, o = .inl (some (jI v63)) ∧ hK h63 a0 = 7 ∧ jCall d mX9_refuse [jR a0, jI 8, jI v63] h63 (fun o h66 => ∃ v66, o = .inl (some (jI v66)) ∧ Q (.inl none) h66)))))))) ∧ (¬ (v18 = 0) → hK h18 a0 = 7 ∧ hK h18 (hR h18 601 a0) = 6 ∧ jCall d mX7_at [jR (hR h18 601 a0), jI a2] h18 (fun o h32 => ∃ v32, o = .inl (some (jI v32)) ∧ hK h32 a0 = 7 ∧ jCall d mX9_refuse [jR a0, jI 7, jI v32] h32 (fun o h35 => ∃ v35, o = .inl (some (jI v35)) ∧ Q (.inl none) h35))))))))) : jWp (d + 1) mX9_judgeTogether 2 [(0, jR a0), (1, jI a1), (2, jI a2)] [] h Q := by
  refine jw_ok (fun ok q => ?_)
  replace k := k ok (q _ (.tail _ (.head _))) (q _ (.tail _ (.tail _ (.head _))))
  refine wp_iload_n 2 dX9_judgeTogether_2 rfl ?_
  refine wp_aload_n 0 dX9_judgeTogether_3 rfl ?_
  have c1 := k.1
  replace k := k.2
  refine wp_getR (ci := 6) (j := 0) rfl (by decide) gX9_12 dX9_judgeTogether_4 c1 rfl ?_
  have c2 := k.1
  replace k := k.2
  refine wp_callV (ci := 4) (y' := mX6_count) (st := [jI a2]) [] rfl rfl rfl fX6_count kX9_179 nX6_count dX9_judgeTogether_7 (Nat.le_of_ble_eq_true rfl) c2 ?_
  refine jCall.mono k (fun o h7 k => ?_)
  obtain ⟨v7, e, k⟩ := k
  subst e
  show jWp (d + 1) mX9_judgeTogether 10 [(0, jR a0), (1, jI a1), (2, jI a2)] [jI v7, jI a2] h7 Q
  refine wp_icmp_ge 77 dX9_judgeTogether_10 rfl (fun q => ?_) (fun q => ?_)
  · replace k := k.1 q
    exact wp_return dX9_judgeTogether_77 rfl k
  · replace k := k.2 q
    refine wp_aload_n 0 dX9_judgeTogether_13 rfl ?_
    have c3 := k.1
    replace k := k.2
    refine wp_getR (ci := 6) (j := 0) rfl (by decide) gX9_12 dX9_judgeTogether_14 c3 rfl ?_
    refine wp_iload_n 2 dX9_judgeTogether_17 rfl ?_
    have c4 := k.1
    replace k := k.2
    refine wp_callV (ci := 4) (y' := mX6_isRepeated) (st := []) [jI a2] rfl rfl rfl fX6_isRepeated kX9_180 nX6_isRepeated dX9_judgeTogether_18 (Nat.le_of_ble_eq_true rfl) c4 ?_
    refine jCall.mono k (fun o h18 k => ?_)
    obtain ⟨v18, e, k⟩ := k
    subst e
    show jWp (d + 1) mX9_judgeTogether 21 [(0, jR a0), (1, jI a1), (2, jI a2)] [jI v18] h18 Q
    refine wp_if_eq 40 dX9_judgeTogether_21 rfl (fun q => ?_) (fun q => ?_)
    · replace k := k.1 q
      refine wp_iload_n 1 dX9_judgeTogether_40 rfl ?_
      refine wp_if_eq 71 dX9_judgeTogether_41 rfl (fun q => ?_) (fun q => ?_)
      · replace k := k.1 q
        have c5 := k.1
        replace k := k.2
        refine wp_iinc 2 [1, 2, 0] (ls' := [(0, jR a0), (1, jI a1), (2, jI (a2 + 1))]) dX9_judgeTogether_71 rfl c5 ⟨by decide, by decide⟩ (by decide) rfl ?_
        refine wp_goto 2 dX9_judgeTogether_74 rfl ?_
        exact k
      · replace k := k.2 q
        refine wp_aload_n 0 dX9_judgeTogether_44 rfl ?_
        have c6 := k.1
        replace k := k.2
        refine wp_getR (ci := 6) (j := 0) rfl (by decide) gX9_12 dX9_judgeTogether_45 c6 rfl ?_
        refine wp_iload_n 2 dX9_judgeTogether_48 rfl ?_
        have c7 := k.1
        replace k := k.2
        refine wp_callV (ci := 4) (y' := mX6_isWantMet) (st := []) [jI a2] rfl rfl rfl fX6_isWantMet kX9_183 nX6_isWantMet dX9_judgeTogether_49 (Nat.le_of_ble_eq_true rfl) c7 ?_
        refine jCall.mono k (fun o h49 k => ?_)
        obtain ⟨v49, e, k⟩ := k
        subst e
        show jWp (d + 1) mX9_judgeTogether 52 [(0, jR a0), (1, jI a1), (2, jI a2)] [jI v49] h49 Q
        refine wp_if_ne 71 dX9_judgeTogether_52 rfl (fun q => ?_) (fun q => ?_)
        · replace k := k.1 q
          have c8 := k.1
          replace k := k.2
          refine wp_iinc 2 [1, 2, 0] (ls' := [(0, jR a0), (1, jI a1), (2, jI (a2 + 1))]) dX9_judgeTogether_71 rfl c8 ⟨by decide, by decide⟩ (by decide) rfl ?_
          refine wp_goto 2 dX9_judgeTogether_74 rfl ?_
          exact k
        · replace k := k.2 q
          refine wp_aload_n 0 dX9_judgeTogether_55 rfl ?_
          refine wp_bipush dX9_judgeTogether_56 ⟨by decide, by decide⟩ ?_
          refine wp_aload_n 0 dX9_judgeTogether_58 rfl ?_
          have c9 := k.1
          replace k := k.2
          refine wp_getR (ci := 6) (j := 1) rfl (by decide) gX9_23 dX9_judgeTogether_59 c9 rfl ?_
          refine wp_iload_n 2 dX9_judgeTogether_62 rfl ?_
          have c10 := k.1
          replace k := k.2
          refine wp_callV (ci := 5) (y' := mX7_at) (st := [jI 8, jR a0]) [jI a2] rfl rfl rfl fX7_at kX9_66 nX7_at dX9_judgeTogether_63 (Nat.le_of_ble_eq_true rfl) c10 ?_
          refine jCall.mono k (fun o h63 k => ?_)
          obtain ⟨v63, e, k⟩ := k
          subst e
          show jWp (d + 1) mX9_judgeTogether 66 [(0, jR a0), (1, jI a1), (2, jI a2)] [jI v63, jI 8, jR a0] h63 Q
          have c11 := k.1
          replace k := k.2
          refine wp_callV (ci := 6) (y' := mX9_refuse) (st := []) [jI 8, jI v63] rfl rfl rfl fX9_refuse kX9_74 nX9_refuse dX9_judgeTogether_66 (Nat.le_of_ble_eq_true rfl) c11 ?_
          refine jCall.mono k (fun o h66 k => ?_)
          obtain ⟨v66, e, k⟩ := k
          subst e
          show jWp (d + 1) mX9_judgeTogether 69 [(0, jR a0), (1, jI a1), (2, jI a2)] [jI v66] h66 Q
          refine wp_pop dX9_judgeTogether_69 rfl ?_
          exact wp_return dX9_judgeTogether_70 rfl k
    · replace k := k.2 q
      refine wp_aload_n 0 dX9_judgeTogether_24 rfl ?_
      refine wp_bipush dX9_judgeTogether_25 ⟨by decide, by decide⟩ ?_
      refine wp_aload_n 0 dX9_judgeTogether_27 rfl ?_
      have c12 := k.1
      replace k := k.2
      refine wp_getR (ci := 6) (j := 1) rfl (by decide) gX9_23 dX9_judgeTogether_28 c12 rfl ?_
      refine wp_iload_n 2 dX9_judgeTogether_31 rfl ?_
      have c13 := k.1
      replace k := k.2
      refine wp_callV (ci := 5) (y' := mX7_at) (st := [jI 7, jR a0]) [jI a2] rfl rfl rfl fX7_at kX9_66 nX7_at dX9_judgeTogether_32 (Nat.le_of_ble_eq_true rfl) c13 ?_
      refine jCall.mono k (fun o h32 k => ?_)
      obtain ⟨v32, e, k⟩ := k
      subst e
      show jWp (d + 1) mX9_judgeTogether 35 [(0, jR a0), (1, jI a1), (2, jI a2)] [jI v32, jI 7, jR a0] h32 Q
      have c14 := k.1
      replace k := k.2
      refine wp_callV (ci := 6) (y' := mX9_refuse) (st := []) [jI 7, jI v32] rfl rfl rfl fX9_refuse kX9_74 nX9_refuse dX9_judgeTogether_35 (Nat.le_of_ble_eq_true rfl) c14 ?_
      refine jCall.mono k (fun o h35 k => ?_)
      obtain ⟨v35, e, k⟩ := k
      subst e
      show jWp (d + 1) mX9_judgeTogether 38 [(0, jR a0), (1, jI a1), (2, jI a2)] [jI v35] h35 Q
      refine wp_pop dX9_judgeTogether_38 rfl ?_
      exact wp_return dX9_judgeTogether_39 rfl k
