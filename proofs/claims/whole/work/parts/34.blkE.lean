/-! BLOCKS (made by wip/whole/gen/genblk.py) -/
theorem bX0_init {d : Nat} {h : jH} {Q : jO → jH → Prop} {a0 : Nat} {a1 : Nat} (k : jOK h → a0 ≠ 0 ∧ hK h a0 = 1 ∧ (hS h) ≠ 0 ∧ jCall d mX7_init [jR (hS h), jI 100] (sN (sR h 0 a0 a1) 6 0 2) (fun o h16 => o = .inl none ∧ hK h16 a0 = 1 ∧ (hS h16) ≠ 0 ∧ jCall d mX7_init [jR (hS h16), jI 100] (sN (sR h16 1 a0 (hS h)) 6 0 2) (fun o h29 => o = .inl none ∧ hK h29 a0 = 1 ∧ (hS h29) ≠ 0 ∧ jCall d mX7_init [jR (hS h29), jI 0] (sN (sR h29 2 a0 (hS h16)) 6 0 2) (fun o h41 => o = .inl none ∧ hK h41 a0 = 1 ∧ Q (.inl none) (sR h41 3 a0 (hS h29)))))) : jCall (d + 1) mX0_init [jR a0, jR a1] h Q := by
  refine jCall_of plX0 (Nat.le_of_ble_eq_true rfl) ?_
  show jWp (d + 1) mX0_init 0 [(0, jR a0), (1, jR a1)] [] h Q
  refine jw_ok (fun ok q => ?_)
  replace k := k ok 
  refine wp_aload_n 0 dX0_init_0 rfl ?_
  have c1 := k.1
  replace k := k.2
  refine wp_objInit dX0_init_1 kX0_3 c1 (Nat.le_of_ble_eq_true rfl) ?_
  refine wp_aload_n 0 dX0_init_4 rfl ?_
  refine wp_aload_n 1 dX0_init_5 rfl ?_
  have c2 := k.1
  replace k := k.2
  refine wp_putR (ci := 0) (j := 0) rfl (by decide) gX0_9 dX0_init_6 c2 (Or.inr ⟨rfl, rfl, rfl⟩) rfl ?_
  refine wp_aload_n 0 dX0_init_9 rfl ?_
  refine wp_new (ci := 5) rfl qX0_15 iX7 inX7 dX0_init_10 ?_
  refine wp_dup dX0_init_13 rfl ?_
  refine wp_bipush dX0_init_14 ⟨by decide, by decide⟩ ?_
  have c3 := k.1
  replace k := k.2
  refine wp_callI (y' := mX7_init) (st := [jR (hS h), jR a0]) [jI 100] rfl fX7_init kX0_17 nX7_init dX0_init_16 (Nat.le_of_ble_eq_true rfl) c3 ?_
  refine jCall.mono k (fun o h16 k => ?_)
  obtain ⟨e, k⟩ := k
  refine ⟨e, ?_⟩
  show jWp (d + 1) mX0_init 19 [(0, jR a0), (1, jR a1)] [jR (hS h), jR a0] h16 Q
  have c4 := k.1
  replace k := k.2
  refine wp_putR (ci := 0) (j := 1) rfl (by decide) gX0_20 dX0_init_19 c4 (Or.inr ⟨rfl, rfl, rfl⟩) rfl ?_
  refine wp_aload_n 0 dX0_init_22 rfl ?_
  refine wp_new (ci := 5) rfl qX0_15 iX7 inX7 dX0_init_23 ?_
  refine wp_dup dX0_init_26 rfl ?_
  refine wp_bipush dX0_init_27 ⟨by decide, by decide⟩ ?_
  have c5 := k.1
  replace k := k.2
  refine wp_callI (y' := mX7_init) (st := [jR (hS h16), jR a0]) [jI 100] rfl fX7_init kX0_17 nX7_init dX0_init_29 (Nat.le_of_ble_eq_true rfl) c5 ?_
  refine jCall.mono k (fun o h29 k => ?_)
  obtain ⟨e, k⟩ := k
  refine ⟨e, ?_⟩
  show jWp (d + 1) mX0_init 32 [(0, jR a0), (1, jR a1)] [jR (hS h16), jR a0] h29 Q
  have c6 := k.1
  replace k := k.2
  refine wp_putR (ci := 0) (j := 2) rfl (by decide) gX0_24 dX0_init_32 c6 (Or.inr ⟨rfl, rfl, rfl⟩) rfl ?_
  refine wp_aload_n 0 dX0_init_35 rfl ?_
  refine wp_new (ci := 5) rfl qX0_15 iX7 inX7 dX0_init_36 ?_
  refine wp_dup dX0_init_39 rfl ?_
  refine wp_iconst dX0_init_40 ⟨by decide, by decide⟩ ?_
  have c7 := k.1
  replace k := k.2
  refine wp_callI (y' := mX7_init) (st := [jR (hS h29), jR a0]) [jI 0] rfl fX7_init kX0_17 nX7_init dX0_init_41 (Nat.le_of_ble_eq_true rfl) c7 ?_
  refine jCall.mono k (fun o h41 k => ?_)
  obtain ⟨e, k⟩ := k
  refine ⟨e, ?_⟩
  show jWp (d + 1) mX0_init 44 [(0, jR a0), (1, jR a1)] [jR (hS h29), jR a0] h41 Q
  have c8 := k.1
  replace k := k.2
  refine wp_putR (ci := 0) (j := 3) rfl (by decide) gX0_27 dX0_init_44 c8 (Or.inl rfl) rfl ?_
  exact wp_return dX0_init_47 rfl k
theorem bX0_faultSort {d : Nat} {h : jH} {Q : jO → jH → Prop} {a0 : Nat} (k : jOK h → hK h a0 = 1 ∧ (j32 (hI h 7 a0) → Q (.inl (some (jI (hI h 7 a0)))) h)) : jCall d mX0_faultSort [jR a0] h Q := by
  refine jCall_of plX0 (Nat.le_of_ble_eq_true rfl) ?_
  show jWp d mX0_faultSort 0 [(0, jR a0)] [] h Q
  refine jw_ok (fun ok q => ?_)
  replace k := k ok 
  refine wp_aload_n 0 dX0_faultSort_0 rfl ?_
  have c1 := k.1
  replace k := k.2
  refine wp_getI (ci := 0) (j := 7) rfl (by decide) gX0_30 dX0_faultSort_1 c1 rfl (fun q => ?_)
  have f2 := q
  replace k := k q
  exact wp_iret dX0_faultSort_4 rfl k
theorem bX0_faultPlace {d : Nat} {h : jH} {Q : jO → jH → Prop} {a0 : Nat} (k : jOK h → hK h a0 = 1 ∧ (j32 (hI h 8 a0) → Q (.inl (some (jI (hI h 8 a0)))) h)) : jCall d mX0_faultPlace [jR a0] h Q := by
  refine jCall_of plX0 (Nat.le_of_ble_eq_true rfl) ?_
  show jWp d mX0_faultPlace 0 [(0, jR a0)] [] h Q
  refine jw_ok (fun ok q => ?_)
  replace k := k ok 
  refine wp_aload_n 0 dX0_faultPlace_0 rfl ?_
  have c1 := k.1
  replace k := k.2
  refine wp_getI (ci := 0) (j := 8) rfl (by decide) gX0_34 dX0_faultPlace_1 c1 rfl (fun q => ?_)
  have f2 := q
  replace k := k q
  exact wp_iret dX0_faultPlace_4 rfl k
theorem bX0_characters {d : Nat} {h : jH} {Q : jO → jH → Prop} {a0 : Nat} (k : jOK h → hK h a0 = 1 ∧ hK h (hR h 1 a0) = 6 ∧ jCall d mX7_count [jR (hR h 1 a0)] h (fun o h4 => ∃ v4, o = .inl (some (jI v4)) ∧ Q (.inl (some (jI v4))) h4)) : jCall (d + 1) mX0_characters [jR a0] h Q := by
  refine jCall_of plX0 (Nat.le_of_ble_eq_true rfl) ?_
  show jWp (d + 1) mX0_characters 0 [(0, jR a0)] [] h Q
  refine jw_ok (fun ok q => ?_)
  replace k := k ok 
  refine wp_aload_n 0 dX0_characters_0 rfl ?_
  have c1 := k.1
  replace k := k.2
  refine wp_getR (ci := 0) (j := 1) rfl (by decide) gX0_20 dX0_characters_1 c1 rfl ?_
  have c2 := k.1
  replace k := k.2
  refine wp_callV (ci := 5) (y' := mX7_count) (st := []) [] rfl rfl rfl fX7_count kX0_37 nX7_count dX0_characters_4 (Nat.le_of_ble_eq_true rfl) c2 ?_
  refine jCall.mono k (fun o h4 k => ?_)
  obtain ⟨v4, e, k⟩ := k
  subst e
  show jWp (d + 1) mX0_characters 7 [(0, jR a0)] [jI v4] h4 Q
  exact wp_iret dX0_characters_7 rfl k
theorem bX0_isFromRight {d : Nat} {h : jH} {Q : jO → jH → Prop} {a0 : Nat} (k : jOK h → hK h a0 = 1 ∧ (j32 (hI h 6 a0) → (0 ≤ (hI h 6 a0) ∧ (hI h 6 a0) ≤ 1) ∧ Q (.inl (some (jI (hI h 6 a0)))) h)) : jCall d mX0_isFromRight [jR a0] h Q := by
  refine jCall_of plX0 (Nat.le_of_ble_eq_true rfl) ?_
  show jWp d mX0_isFromRight 0 [(0, jR a0)] [] h Q
  refine jw_ok (fun ok q => ?_)
  replace k := k ok 
  refine wp_aload_n 0 dX0_isFromRight_0 rfl ?_
  have c1 := k.1
  replace k := k.2
  refine wp_getI (ci := 0) (j := 6) rfl (by decide) gX0_41 dX0_isFromRight_1 c1 rfl (fun q => ?_)
  have f2 := q
  replace k := k q
  have c3 := k.1
  replace k := k.2
  exact wp_zreturn dX0_isFromRight_4 rfl c3.1 c3.2 k
theorem bX0_noteFault {d : Nat} {h : jH} {Q : jO → jH → Prop} {a0 : Nat} {a1 : Int} {a2 : Int} (k : jOK h → j32 a1 → j32 a2 → hK h a0 = 1 ∧ Q (.inl none) (sI (sI h 7 a0 a1) 8 a0 a2)) : jCall d mX0_noteFault [jR a0, jI a1, jI a2] h Q := by
  refine jCall_of plX0 (Nat.le_of_ble_eq_true rfl) ?_
  show jWp d mX0_noteFault 0 [(0, jR a0), (1, jI a1), (2, jI a2)] [] h Q
  refine jw_ok (fun ok q => ?_)
  replace k := k ok (q _ (.tail _ (.head _))) (q _ (.tail _ (.tail _ (.head _))))
  refine wp_aload_n 0 dX0_noteFault_0 rfl ?_
  refine wp_iload_n 1 dX0_noteFault_1 rfl ?_
  have c1 := k.1
  replace k := k.2
  refine wp_putI (ci := 0) (j := 7) rfl (by decide) gX0_30 dX0_noteFault_2 c1 (Or.inl rfl) rfl ?_
  refine wp_aload_n 0 dX0_noteFault_5 rfl ?_
  refine wp_iload_n 2 dX0_noteFault_6 rfl ?_
  refine wp_putI (ci := 0) (j := 8) rfl (by decide) gX0_34 dX0_noteFault_7 c1 (Or.inl rfl) rfl ?_
  exact wp_return dX0_noteFault_10 rfl k
theorem bX0_readBars {d : Nat} {h : jH} {Q : jO → jH → Prop} {a0 : Nat} {a1 : Nat} (k : jOK h → hK h a0 = 1 ∧ hK h (hR (sR h 3 a0 a1) 1 a0) = 6 ∧ jCall d mX7_clear [jR (hR (sR h 3 a0 a1) 1 a0)] (sR h 3 a0 a1) (fun o h9 => o = .inl none ∧ hK h9 a0 = 1 ∧ hK h9 (hR h9 2 a0) = 6 ∧ jCall d mX7_clear [jR (hR h9 2 a0)] h9 (fun o h16 => o = .inl none ∧ hK h16 a0 = 1 ∧ jCall d mX0_noteFault [jR a0, jI 0, jI (-1)] h16 (fun o h22 => o = .inl none ∧ hK h22 a0 = 1 ∧ jCall d mX0_leaveOutEnds [jR a0] h22 (fun o h26 => o = .inl none ∧ hK h26 a0 = 1 ∧ (j32 (hI h26 5 a0) → (((hI h26 5 a0) ≠ 0 → jCall d mX0_chooseSide [jR a0] h26 (fun o h45 => o = .inl none ∧ hK h45 a0 = 1 ∧ jCall d mX0_readCharacters [jR a0] h45 (fun o h49 => ∃ v49, o = .inl (some (jI v49)) ∧ ((v49 = 0 → Q (.inl none) h49) ∧ (¬ (v49 = 0) → hK h49 a0 = 1 ∧ jCall d mX0_judgeFrame [jR a0] h49 (fun o h56 => o = .inl none ∧ Q (.inl none) h56)))))) ∧ ((hI h26 5 a0) = 0 → jCall d mX0_noteFault [jR a0, jI 11, jI 0] h26 (fun o h40 => o = .inl none ∧ Q (.inl none) h40))))))))) : jCall (d + 1) mX0_readBars [jR a0, jR a1] h Q := by
  refine jCall_of plX0 (Nat.le_of_ble_eq_true rfl) ?_
  show jWp (d + 1) mX0_readBars 0 [(0, jR a0), (1, jR a1)] [] h Q
  refine jw_ok (fun ok q => ?_)
  replace k := k ok 
  refine wp_aload_n 0 dX0_readBars_0 rfl ?_
  refine wp_aload_n 1 dX0_readBars_1 rfl ?_
  have c1 := k.1
  replace k := k.2
  refine wp_putR (ci := 0) (j := 3) rfl (by decide) gX0_27 dX0_readBars_2 c1 (Or.inl rfl) rfl ?_
  refine wp_aload_n 0 dX0_readBars_5 rfl ?_
  refine wp_getR (ci := 0) (j := 1) rfl (by decide) gX0_20 dX0_readBars_6 c1 rfl ?_
  have c2 := k.1
  replace k := k.2
  refine wp_callV (ci := 5) (y' := mX7_clear) (st := []) [] rfl rfl rfl fX7_clear kX0_45 nX7_clear dX0_readBars_9 (Nat.le_of_ble_eq_true rfl) c2 ?_
  refine jCall.mono k (fun o h9 k => ?_)
  obtain ⟨e, k⟩ := k
  subst e
  show jWp (d + 1) mX0_readBars 12 [(0, jR a0), (1, jR a1)] [] h9 Q
  refine wp_aload_n 0 dX0_readBars_12 rfl ?_
  have c3 := k.1
  replace k := k.2
  refine wp_getR (ci := 0) (j := 2) rfl (by decide) gX0_24 dX0_readBars_13 c3 rfl ?_
  have c4 := k.1
  replace k := k.2
  refine wp_callV (ci := 5) (y' := mX7_clear) (st := []) [] rfl rfl rfl fX7_clear kX0_45 nX7_clear dX0_readBars_16 (Nat.le_of_ble_eq_true rfl) c4 ?_
  refine jCall.mono k (fun o h16 k => ?_)
  obtain ⟨e, k⟩ := k
  subst e
  show jWp (d + 1) mX0_readBars 19 [(0, jR a0), (1, jR a1)] [] h16 Q
  refine wp_aload_n 0 dX0_readBars_19 rfl ?_
  refine wp_iconst dX0_readBars_20 ⟨by decide, by decide⟩ ?_
  refine wp_iconst dX0_readBars_21 ⟨by decide, by decide⟩ ?_
  have c5 := k.1
  replace k := k.2
  refine wp_callV (ci := 0) (y' := mX0_noteFault) (st := []) [jI 0, jI (-1)] rfl rfl rfl fX0_noteFault kX0_48 nX0_noteFault dX0_readBars_22 (Nat.le_of_ble_eq_true rfl) c5 ?_
  refine jCall.mono k (fun o h22 k => ?_)
  obtain ⟨e, k⟩ := k
  subst e
  show jWp (d + 1) mX0_readBars 25 [(0, jR a0), (1, jR a1)] [] h22 Q
  refine wp_aload_n 0 dX0_readBars_25 rfl ?_
  have c6 := k.1
  replace k := k.2
  refine wp_callV (ci := 0) (y' := mX0_leaveOutEnds) (st := []) [] rfl rfl rfl fX0_leaveOutEnds kX0_52 nX0_leaveOutEnds dX0_readBars_26 (Nat.le_of_ble_eq_true rfl) c6 ?_
  refine jCall.mono k (fun o h26 k => ?_)
  obtain ⟨e, k⟩ := k
  subst e
  show jWp (d + 1) mX0_readBars 29 [(0, jR a0), (1, jR a1)] [] h26 Q
  refine wp_aload_n 0 dX0_readBars_29 rfl ?_
  have c7 := k.1
  replace k := k.2
  refine wp_getI (ci := 0) (j := 5) rfl (by decide) gX0_55 dX0_readBars_30 c7 rfl (fun q => ?_)
  have f8 := q
  replace k := k q
  refine wp_if_ne 44 dX0_readBars_33 rfl (fun q => ?_) (fun q => ?_)
  · replace k := k.1 q
    refine wp_aload_n 0 dX0_readBars_44 rfl ?_
    refine wp_callV (ci := 0) (y' := mX0_chooseSide) (st := []) [] rfl rfl rfl fX0_chooseSide kX0_58 nX0_chooseSide dX0_readBars_45 (Nat.le_of_ble_eq_true rfl) c7 ?_
    refine jCall.mono k (fun o h45 k => ?_)
    obtain ⟨e, k⟩ := k
    subst e
    show jWp (d + 1) mX0_readBars 48 [(0, jR a0), (1, jR a1)] [] h45 Q
    refine wp_aload_n 0 dX0_readBars_48 rfl ?_
    have c9 := k.1
    replace k := k.2
    refine wp_callV (ci := 0) (y' := mX0_readCharacters) (st := []) [] rfl rfl rfl fX0_readCharacters kX0_61 nX0_readCharacters dX0_readBars_49 (Nat.le_of_ble_eq_true rfl) c9 ?_
    refine jCall.mono k (fun o h49 k => ?_)
    obtain ⟨v49, e, k⟩ := k
    subst e
    show jWp (d + 1) mX0_readBars 52 [(0, jR a0), (1, jR a1)] [jI v49] h49 Q
    refine wp_if_eq 59 dX0_readBars_52 rfl (fun q => ?_) (fun q => ?_)
    · replace k := k.1 q
      exact wp_return dX0_readBars_59 rfl k
    · replace k := k.2 q
      refine wp_aload_n 0 dX0_readBars_55 rfl ?_
      have c10 := k.1
      replace k := k.2
      refine wp_callV (ci := 0) (y' := mX0_judgeFrame) (st := []) [] rfl rfl rfl fX0_judgeFrame kX0_65 nX0_judgeFrame dX0_readBars_56 (Nat.le_of_ble_eq_true rfl) c10 ?_
      refine jCall.mono k (fun o h56 k => ?_)
      obtain ⟨e, k⟩ := k
      subst e
      show jWp (d + 1) mX0_readBars 59 [(0, jR a0), (1, jR a1)] [] h56 Q
      exact wp_return dX0_readBars_59 rfl k
  · replace k := k.2 q
    refine wp_aload_n 0 dX0_readBars_36 rfl ?_
    refine wp_bipush dX0_readBars_37 ⟨by decide, by decide⟩ ?_
    refine wp_iconst dX0_readBars_39 ⟨by decide, by decide⟩ ?_
    refine wp_callV (ci := 0) (y' := mX0_noteFault) (st := []) [jI 11, jI 0] rfl rfl rfl fX0_noteFault kX0_48 nX0_noteFault dX0_readBars_40 (Nat.le_of_ble_eq_true rfl) c7 ?_
    refine jCall.mono k (fun o h40 k => ?_)
    obtain ⟨e, k⟩ := k
    subst e
    show jWp (d + 1) mX0_readBars 43 [(0, jR a0), (1, jR a1)] [] h40 Q
    exact wp_return dX0_readBars_43 rfl k
theorem bX0_leaveOutEnds {d : Nat} {h : jH} {Q : jO → jH → Prop} {a0 : Nat} (k : jOK h → hK h a0 = 1 ∧ hK h (hR h 3 a0) = 6 ∧ jCall d mX7_count [jR (hR h 3 a0)] h (fun o h6 => ∃ v6, o = .inl (some (jI v6)) ∧ j32 (v6 - 1) ∧ jWp (d + 1) mX0_leaveOutEnds 12 [(0, jR a0), (1, jI 0), (2, jI (v6 - 1))] [] h6 Q)) : jCall (d + 1) mX0_leaveOutEnds [jR a0] h Q := by
  refine jCall_of plX0 (Nat.le_of_ble_eq_true rfl) ?_
  show jWp (d + 1) mX0_leaveOutEnds 0 [(0, jR a0)] [] h Q
  refine jw_ok (fun ok q => ?_)
  replace k := k ok 
  refine wp_iconst dX0_leaveOutEnds_0 ⟨by decide, by decide⟩ ?_
  refine wp_istore_n [1, 0] (ls' := [(0, jR a0), (1, jI 0)]) dX0_leaveOutEnds_1 (by decide) rfl ?_
  refine wp_aload_n 0 dX0_leaveOutEnds_2 rfl ?_
  have c1 := k.1
  replace k := k.2
  refine wp_getR (ci := 0) (j := 3) rfl (by decide) gX0_27 dX0_leaveOutEnds_3 c1 rfl ?_
  have c2 := k.1
  replace k := k.2
  refine wp_callV (ci := 5) (y' := mX7_count) (st := []) [] rfl rfl rfl fX7_count kX0_37 nX7_count dX0_leaveOutEnds_6 (Nat.le_of_ble_eq_true rfl) c2 ?_
  refine jCall.mono k (fun o h6 k => ?_)
  obtain ⟨v6, e, k⟩ := k
  subst e
  show jWp (d + 1) mX0_leaveOutEnds 9 [(0, jR a0), (1, jI 0)] [jI v6] h6 Q
  refine wp_iconst dX0_leaveOutEnds_9 ⟨by decide, by decide⟩ ?_
  have c3 := k.1
  replace k := k.2
  refine wp_isub dX0_leaveOutEnds_10 c3 ?_
  refine wp_istore_n [1, 2, 0] (ls' := [(0, jR a0), (1, jI 0), (2, jI (v6 - 1))]) dX0_leaveOutEnds_11 (by decide) rfl ?_
  exact k
theorem bX0_leaveOutEnds_12 {d : Nat} {h : jH} {Q : jO → jH → Prop} {a0 : Nat} {a1 : Int} {a2 : Int} (k : jOK h → j32 a1 → j32 a2 → hK h a0 = 1 ∧ hK h (hR h 3 a0) = 6 ∧ jCall d mX7_count [jR (hR h 3 a0)] h (fun o h17 => ∃ v17, o = .inl (some (jI v17)) ∧ ((v17 ≤ a1 → jWp (d + 1) mX0_leaveOutEnds 40 [(0, jR a0), (1, jI a1), (2, jI a2)] [] h17 Q) ∧ (¬ (v17 ≤ a1) → hK h17 a0 = 1 ∧ hK h17 (hR h17 3 a0) = 6 ∧ jCall d mX7_at [jR (hR h17 3 a0), jI a1] h17 (fun o h28 => ∃ v28, o = .inl (some (jI v28)) ∧ ((v28 ≠ 0 → jWp (d + 1) mX0_leaveOutEnds 40 [(0, jR a0), (1, jI a1), (2, jI a2)] [] h28 Q) ∧ (v28 = 0 → j32 (a1 + 1) ∧ jWp (d + 1) mX0_leaveOutEnds 12 [(0, jR a0), (1, jI (a1 + 1)), (2, jI a2)] [] h28 Q))))))) : jWp (d + 1) mX0_leaveOutEnds 12 [(0, jR a0), (1, jI a1), (2, jI a2)] [] h Q := by
  refine jw_ok (fun ok q => ?_)
  replace k := k ok (q _ (.tail _ (.head _))) (q _ (.tail _ (.tail _ (.head _))))
  refine wp_iload_n 1 dX0_leaveOutEnds_12 rfl ?_
  refine wp_aload_n 0 dX0_leaveOutEnds_13 rfl ?_
  have c1 := k.1
  replace k := k.2
  refine wp_getR (ci := 0) (j := 3) rfl (by decide) gX0_27 dX0_leaveOutEnds_14 c1 rfl ?_
  have c2 := k.1
  replace k := k.2
  refine wp_callV (ci := 5) (y' := mX7_count) (st := [jI a1]) [] rfl rfl rfl fX7_count kX0_37 nX7_count dX0_leaveOutEnds_17 (Nat.le_of_ble_eq_true rfl) c2 ?_
  refine jCall.mono k (fun o h17 k => ?_)
  obtain ⟨v17, e, k⟩ := k
  subst e
  show jWp (d + 1) mX0_leaveOutEnds 20 [(0, jR a0), (1, jI a1), (2, jI a2)] [jI v17, jI a1] h17 Q
  refine wp_icmp_ge 40 dX0_leaveOutEnds_20 rfl (fun q => ?_) (fun q => ?_)
  · replace k := k.1 q
    exact k
  · replace k := k.2 q
    refine wp_aload_n 0 dX0_leaveOutEnds_23 rfl ?_
    have c3 := k.1
    replace k := k.2
    refine wp_getR (ci := 0) (j := 3) rfl (by decide) gX0_27 dX0_leaveOutEnds_24 c3 rfl ?_
    refine wp_iload_n 1 dX0_leaveOutEnds_27 rfl ?_
    have c4 := k.1
    replace k := k.2
    refine wp_callV (ci := 5) (y' := mX7_at) (st := []) [jI a1] rfl rfl rfl fX7_at kX0_68 nX7_at dX0_leaveOutEnds_28 (Nat.le_of_ble_eq_true rfl) c4 ?_
    refine jCall.mono k (fun o h28 k => ?_)
    obtain ⟨v28, e, k⟩ := k
    subst e
    show jWp (d + 1) mX0_leaveOutEnds 31 [(0, jR a0), (1, jI a1), (2, jI a2)] [jI v28] h28 Q
    refine wp_if_ne 40 dX0_leaveOutEnds_31 rfl (fun q => ?_) (fun q => ?_)
    · replace k := k.1 q
      exact k
    · replace k := k.2 q
      have c5 := k.1
      replace k := k.2
      refine wp_iinc 1 [1, 0, 2] (ls' := [(0, jR a0), (1, jI (a1 + 1)), (2, jI a2)]) dX0_leaveOutEnds_34 rfl c5 ⟨by decide, by decide⟩ (by decide) rfl ?_
      refine wp_goto 12 dX0_leaveOutEnds_37 rfl ?_
      exact k
theorem bX0_leaveOutEnds_40 {d : Nat} {h : jH} {Q : jO → jH → Prop} {a0 : Nat} {a1 : Int} {a2 : Int} (k : jOK h → j32 a1 → j32 a2 → ((a2 ≤ a1 → hK h a0 = 1 ∧ j32 (a2 - a1) ∧ j32 ((a2 - a1) + 1) ∧ jCall d mJ9_max_7cf53 [jI ((a2 - a1) + 1), jI 0] (sI h 4 a0 a1) (fun o h74 => ∃ v74, o = .inl (some (jI v74)) ∧ hK h74 a0 = 1 ∧ Q (.inl none) (sI h74 5 a0 v74))) ∧ (¬ (a2 ≤ a1) → hK h a0 = 1 ∧ hK h (hR h 3 a0) = 6 ∧ jCall d mX7_at [jR (hR h 3 a0), jI a2] h (fun o h50 => ∃ v50, o = .inl (some (jI v50)) ∧ ((v50 ≠ 0 → hK h50 a0 = 1 ∧ j32 (a2 - a1) ∧ j32 ((a2 - a1) + 1) ∧ jCall d mJ9_max_7cf53 [jI ((a2 - a1) + 1), jI 0] (sI h50 4 a0 a1) (fun o h74_1 => ∃ v74_1, o = .inl (some (jI v74_1)) ∧ hK h74_1 a0 = 1 ∧ Q (.inl none) (sI h74_1 5 a0 v74_1))) ∧ (v50 = 0 → j32 (a2 + (-1)) ∧ jWp (d + 1) mX0_leaveOutEnds 40 [(0, jR a0), (1, jI a1), (2, jI (a2 + (-1)))] [] h50 Q)))))) : jWp (d + 1) mX0_leaveOutEnds 40 [(0, jR a0), (1, jI a1), (2, jI a2)] [] h Q := by
  refine jw_ok (fun ok q => ?_)
  replace k := k ok (q _ (.tail _ (.head _))) (q _ (.tail _ (.tail _ (.head _))))
  refine wp_iload_n 2 dX0_leaveOutEnds_40 rfl ?_
  refine wp_iload_n 1 dX0_leaveOutEnds_41 rfl ?_
  refine wp_icmp_le 62 dX0_leaveOutEnds_42 rfl (fun q => ?_) (fun q => ?_)
  · replace k := k.1 q
    refine wp_aload_n 0 dX0_leaveOutEnds_62 rfl ?_
    refine wp_iload_n 1 dX0_leaveOutEnds_63 rfl ?_
    have c1 := k.1
    replace k := k.2
    refine wp_putI (ci := 0) (j := 4) rfl (by decide) gX0_72 dX0_leaveOutEnds_64 c1 (Or.inl rfl) rfl ?_
    refine wp_aload_n 0 dX0_leaveOutEnds_67 rfl ?_
    refine wp_iload_n 2 dX0_leaveOutEnds_68 rfl ?_
    refine wp_iload_n 1 dX0_leaveOutEnds_69 rfl ?_
    have c2 := k.1
    replace k := k.2
    refine wp_isub dX0_leaveOutEnds_70 c2 ?_
    refine wp_iconst dX0_leaveOutEnds_71 ⟨by decide, by decide⟩ ?_
    have c3 := k.1
    replace k := k.2
    refine wp_iadd dX0_leaveOutEnds_72 c3 ?_
    refine wp_iconst dX0_leaveOutEnds_73 ⟨by decide, by decide⟩ ?_
    refine wp_callS (y' := mJ9_max_7cf53) (st := [jR a0]) [jI ((a2 - a1) + 1), jI 0] rfl fJ9_max_7cf53 kX0_75 nJ9_max_7cf53 dX0_leaveOutEnds_74 (Nat.le_of_ble_eq_true rfl) ?_
    refine jCall.mono k (fun o h74 k => ?_)
    obtain ⟨v74, e, k⟩ := k
    subst e
    show jWp (d + 1) mX0_leaveOutEnds 77 [(0, jR a0), (1, jI a1), (2, jI a2)] [jI v74, jR a0] h74 Q
    have c4 := k.1
    replace k := k.2
    refine wp_putI (ci := 0) (j := 5) rfl (by decide) gX0_55 dX0_leaveOutEnds_77 c4 (Or.inl rfl) rfl ?_
    exact wp_return dX0_leaveOutEnds_80 rfl k
  · replace k := k.2 q
    refine wp_aload_n 0 dX0_leaveOutEnds_45 rfl ?_
    have c5 := k.1
    replace k := k.2
    refine wp_getR (ci := 0) (j := 3) rfl (by decide) gX0_27 dX0_leaveOutEnds_46 c5 rfl ?_
    refine wp_iload_n 2 dX0_leaveOutEnds_49 rfl ?_
    have c6 := k.1
    replace k := k.2
    refine wp_callV (ci := 5) (y' := mX7_at) (st := []) [jI a2] rfl rfl rfl fX7_at kX0_68 nX7_at dX0_leaveOutEnds_50 (Nat.le_of_ble_eq_true rfl) c6 ?_
    refine jCall.mono k (fun o h50 k => ?_)
    obtain ⟨v50, e, k⟩ := k
    subst e
    show jWp (d + 1) mX0_leaveOutEnds 53 [(0, jR a0), (1, jI a1), (2, jI a2)] [jI v50] h50 Q
    refine wp_if_ne 62 dX0_leaveOutEnds_53 rfl (fun q => ?_) (fun q => ?_)
    · replace k := k.1 q
      refine wp_aload_n 0 dX0_leaveOutEnds_62 rfl ?_
      refine wp_iload_n 1 dX0_leaveOutEnds_63 rfl ?_
      have c7 := k.1
      replace k := k.2
      refine wp_putI (ci := 0) (j := 4) rfl (by decide) gX0_72 dX0_leaveOutEnds_64 c7 (Or.inl rfl) rfl ?_
      refine wp_aload_n 0 dX0_leaveOutEnds_67 rfl ?_
      refine wp_iload_n 2 dX0_leaveOutEnds_68 rfl ?_
      refine wp_iload_n 1 dX0_leaveOutEnds_69 rfl ?_
      have c8 := k.1
      replace k := k.2
      refine wp_isub dX0_leaveOutEnds_70 c8 ?_
      refine wp_iconst dX0_leaveOutEnds_71 ⟨by decide, by decide⟩ ?_
      have c9 := k.1
      replace k := k.2
      refine wp_iadd dX0_leaveOutEnds_72 c9 ?_
      refine wp_iconst dX0_leaveOutEnds_73 ⟨by decide, by decide⟩ ?_
      refine wp_callS (y' := mJ9_max_7cf53) (st := [jR a0]) [jI ((a2 - a1) + 1), jI 0] rfl fJ9_max_7cf53 kX0_75 nJ9_max_7cf53 dX0_leaveOutEnds_74 (Nat.le_of_ble_eq_true rfl) ?_
      refine jCall.mono k (fun o h74_1 k => ?_)
      obtain ⟨v74_1, e, k⟩ := k
      subst e
      show jWp (d + 1) mX0_leaveOutEnds 77 [(0, jR a0), (1, jI a1), (2, jI a2)] [jI v74_1, jR a0] h74_1 Q
      have c10 := k.1
      replace k := k.2
      refine wp_putI (ci := 0) (j := 5) rfl (by decide) gX0_55 dX0_leaveOutEnds_77 c10 (Or.inl rfl) rfl ?_
      exact wp_return dX0_leaveOutEnds_80 rfl k
    · replace k := k.2 q
      have c11 := k.1
      replace k := k.2
      refine wp_iinc 2 [1, 2, 0] (ls' := [(0, jR a0), (1, jI a1), (2, jI (a2 + (-1)))]) dX0_leaveOutEnds_56 rfl c11 ⟨by decide, by decide⟩ (by decide) rfl ?_
      refine wp_goto 40 dX0_leaveOutEnds_59 rfl ?_
      exact k
theorem bX0_chooseSide {d : Nat} {h : jH} {Q : jO → jH → Prop} {a0 : Nat} (k : jOK h → hK h a0 = 1 ∧ jCall d mX0_beginsWithStart [jR a0] (sI h 6 a0 0) (fun o h6 => ∃ v6, o = .inl (some (jI v6)) ∧ hK h6 a0 = 1 ∧ jCall d mX0_beginsWithStart [jR a0] (sI h6 6 a0 1) (fun o h16 => ∃ v16, o = .inl (some (jI v16)) ∧ ((v6 ≠ 0 → hK h16 a0 = 1 ∧ Q (.inl none) (sI h16 6 a0 0)) ∧ (v6 = 0 → ((v16 = 0 → hK h16 a0 = 1 ∧ Q (.inl none) (sI h16 6 a0 0)) ∧ (¬ (v16 = 0) → hK h16 a0 = 1 ∧ Q (.inl none) (sI h16 6 a0 1)))))))) : jCall (d + 1) mX0_chooseSide [jR a0] h Q := by
  refine jCall_of plX0 (Nat.le_of_ble_eq_true rfl) ?_
  show jWp (d + 1) mX0_chooseSide 0 [(0, jR a0)] [] h Q
  refine jw_ok (fun ok q => ?_)
  replace k := k ok 
  refine wp_aload_n 0 dX0_chooseSide_0 rfl ?_
  refine wp_iconst dX0_chooseSide_1 ⟨by decide, by decide⟩ ?_
  have c1 := k.1
  replace k := k.2
  refine wp_putZ (ci := 0) (j := 6) rfl (by decide) gX0_41 dX0_chooseSide_2 c1 (Or.inl rfl) rfl ⟨by decide, by decide⟩ ?_
  refine wp_aload_n 0 dX0_chooseSide_5 rfl ?_
  refine wp_callV (ci := 0) (y' := mX0_beginsWithStart) (st := []) [] rfl rfl rfl fX0_beginsWithStart kX0_81 nX0_beginsWithStart dX0_chooseSide_6 (Nat.le_of_ble_eq_true rfl) c1 ?_
  refine jCall.mono k (fun o h6 k => ?_)
  obtain ⟨v6, e, k⟩ := k
  subst e
  show jWp (d + 1) mX0_chooseSide 9 [(0, jR a0)] [jI v6] h6 Q
  refine wp_istore_n [1, 0] (ls' := [(0, jR a0), (1, jI v6)]) dX0_chooseSide_9 (by decide) rfl ?_
  refine wp_aload_n 0 dX0_chooseSide_10 rfl ?_
  refine wp_iconst dX0_chooseSide_11 ⟨by decide, by decide⟩ ?_
  have c2 := k.1
  replace k := k.2
  refine wp_putZ (ci := 0) (j := 6) rfl (by decide) gX0_41 dX0_chooseSide_12 c2 (Or.inl rfl) rfl ⟨by decide, by decide⟩ ?_
  refine wp_aload_n 0 dX0_chooseSide_15 rfl ?_
  refine wp_callV (ci := 0) (y' := mX0_beginsWithStart) (st := []) [] rfl rfl rfl fX0_beginsWithStart kX0_81 nX0_beginsWithStart dX0_chooseSide_16 (Nat.le_of_ble_eq_true rfl) c2 ?_
  refine jCall.mono k (fun o h16 k => ?_)
  obtain ⟨v16, e, k⟩ := k
  subst e
  show jWp (d + 1) mX0_chooseSide 19 [(0, jR a0), (1, jI v6)] [jI v16] h16 Q
  refine wp_istore_n [1, 2, 0] (ls' := [(0, jR a0), (1, jI v6), (2, jI v16)]) dX0_chooseSide_19 (by decide) rfl ?_
  refine wp_aload_n 0 dX0_chooseSide_20 rfl ?_
  refine wp_iload_n 1 dX0_chooseSide_21 rfl ?_
  refine wp_if_ne 33 dX0_chooseSide_22 rfl (fun q => ?_) (fun q => ?_)
  · replace k := k.1 q
    refine wp_iconst dX0_chooseSide_33 ⟨by decide, by decide⟩ ?_
    have c3 := k.1
    replace k := k.2
    refine wp_putZ (ci := 0) (j := 6) rfl (by decide) gX0_41 dX0_chooseSide_34 c3 (Or.inl rfl) rfl ⟨by decide, by decide⟩ ?_
    exact wp_return dX0_chooseSide_37 rfl k
  · replace k := k.2 q
    refine wp_iload_n 2 dX0_chooseSide_25 rfl ?_
    refine wp_if_eq 33 dX0_chooseSide_26 rfl (fun q => ?_) (fun q => ?_)
    · replace k := k.1 q
      refine wp_iconst dX0_chooseSide_33 ⟨by decide, by decide⟩ ?_
      have c4 := k.1
      replace k := k.2
      refine wp_putZ (ci := 0) (j := 6) rfl (by decide) gX0_41 dX0_chooseSide_34 c4 (Or.inl rfl) rfl ⟨by decide, by decide⟩ ?_
      exact wp_return dX0_chooseSide_37 rfl k
    · replace k := k.2 q
      refine wp_iconst dX0_chooseSide_29 ⟨by decide, by decide⟩ ?_
      refine wp_goto 34 dX0_chooseSide_30 rfl ?_
      have c5 := k.1
      replace k := k.2
      refine wp_putZ (ci := 0) (j := 6) rfl (by decide) gX0_41 dX0_chooseSide_34 c5 (Or.inl rfl) rfl ⟨by decide, by decide⟩ ?_
      exact wp_return dX0_chooseSide_37 rfl k
theorem bX0_beginsWithStart {d : Nat} {h : jH} {Q : jO → jH → Prop} {a0 : Nat} (k : jOK h → hK h a0 = 1 ∧ jCall d mX0_patternAt [jR a0, jI 0, jI 11] h (fun o h8 => ∃ v8, o = .inl (some (jI v8)) ∧ hK h8 (hR h 0 a0) = 2 ∧ jCall d mX1_characterOf [jR (hR h 0 a0), jI v8] h8 (fun o h11 => ∃ v11, o = .inl (some (jI v11)) ∧ ((v11 < 103 → Q (.inl (some (jI 0))) h11) ∧ (¬ (v11 < 103) → Q (.inl (some (jI 1))) h11))))) : jCall (d + 1) mX0_beginsWithStart [jR a0] h Q := by
  refine jCall_of plX0 (Nat.le_of_ble_eq_true rfl) ?_
  show jWp (d + 1) mX0_beginsWithStart 0 [(0, jR a0)] [] h Q
  refine jw_ok (fun ok q => ?_)
  replace k := k ok 
  refine wp_aload_n 0 dX0_beginsWithStart_0 rfl ?_
  have c1 := k.1
  replace k := k.2
  refine wp_getR (ci := 0) (j := 0) rfl (by decide) gX0_9 dX0_beginsWithStart_1 c1 rfl ?_
  refine wp_aload_n 0 dX0_beginsWithStart_4 rfl ?_
  refine wp_iconst dX0_beginsWithStart_5 ⟨by decide, by decide⟩ ?_
  refine wp_bipush dX0_beginsWithStart_6 ⟨by decide, by decide⟩ ?_
  refine wp_callV (ci := 0) (y' := mX0_patternAt) (st := [jR (hR h 0 a0)]) [jI 0, jI 11] rfl rfl rfl fX0_patternAt kX0_86 nX0_patternAt dX0_beginsWithStart_8 (Nat.le_of_ble_eq_true rfl) c1 ?_
  refine jCall.mono k (fun o h8 k => ?_)
  obtain ⟨v8, e, k⟩ := k
  subst e
  show jWp (d + 1) mX0_beginsWithStart 11 [(0, jR a0)] [jI v8, jR (hR h 0 a0)] h8 Q
  have c2 := k.1
  replace k := k.2
  refine wp_callV (ci := 1) (y' := mX1_characterOf) (st := []) [jI v8] rfl rfl rfl fX1_characterOf kX0_89 nX1_characterOf dX0_beginsWithStart_11 (Nat.le_of_ble_eq_true rfl) c2 ?_
  refine jCall.mono k (fun o h11 k => ?_)
  obtain ⟨v11, e, k⟩ := k
  subst e
  show jWp (d + 1) mX0_beginsWithStart 14 [(0, jR a0)] [jI v11] h11 Q
  refine wp_bipush dX0_beginsWithStart_14 ⟨by decide, by decide⟩ ?_
  refine wp_icmp_lt 23 dX0_beginsWithStart_16 rfl (fun q => ?_) (fun q => ?_)
  · replace k := k.1 q
    refine wp_iconst dX0_beginsWithStart_23 ⟨by decide, by decide⟩ ?_
    exact wp_zreturn dX0_beginsWithStart_24 rfl (by decide) (by decide) k
  · replace k := k.2 q
    refine wp_iconst dX0_beginsWithStart_19 ⟨by decide, by decide⟩ ?_
    refine wp_goto 24 dX0_beginsWithStart_20 rfl ?_
    exact wp_zreturn dX0_beginsWithStart_24 rfl (by decide) (by decide) k
theorem bX0_placeOf {d : Nat} {h : jH} {Q : jO → jH → Prop} {a0 : Nat} {a1 : Int} (k : jOK h → j32 a1 → hK h a0 = 1 ∧ (j32 (hI h 6 a0) → (((hI h 6 a0) = 0 → (j32 (hI h 4 a0) → j32 ((hI h 4 a0) + a1) ∧ Q (.inl (some (jI ((hI h 4 a0) + a1)))) h)) ∧ (¬ ((hI h 6 a0) = 0) → (j32 (hI h 4 a0) → (j32 (hI h 5 a0) → j32 ((hI h 4 a0) + (hI h 5 a0)) ∧ j32 (((hI h 4 a0) + (hI h 5 a0)) - 1) ∧ j32 ((((hI h 4 a0) + (hI h 5 a0)) - 1) - a1) ∧ Q (.inl (some (jI ((((hI h 4 a0) + (hI h 5 a0)) - 1) - a1)))) h)))))) : jCall d mX0_placeOf [jR a0, jI a1] h Q := by
  refine jCall_of plX0 (Nat.le_of_ble_eq_true rfl) ?_
  show jWp d mX0_placeOf 0 [(0, jR a0), (1, jI a1)] [] h Q
  refine jw_ok (fun ok q => ?_)
  replace k := k ok (q _ (.tail _ (.head _)))
  refine wp_aload_n 0 dX0_placeOf_0 rfl ?_
  have c1 := k.1
  replace k := k.2
  refine wp_getI (ci := 0) (j := 6) rfl (by decide) gX0_41 dX0_placeOf_1 c1 rfl (fun q => ?_)
  have f2 := q
  replace k := k q
  refine wp_if_eq 23 dX0_placeOf_4 rfl (fun q => ?_) (fun q => ?_)
  · replace k := k.1 q
    refine wp_aload_n 0 dX0_placeOf_23 rfl ?_
    refine wp_getI (ci := 0) (j := 4) rfl (by decide) gX0_72 dX0_placeOf_24 c1 rfl (fun q => ?_)
    have f3 := q
    replace k := k q
    refine wp_iload_n 1 dX0_placeOf_27 rfl ?_
    have c4 := k.1
    replace k := k.2
    refine wp_iadd dX0_placeOf_28 c4 ?_
    exact wp_iret dX0_placeOf_29 rfl k
  · replace k := k.2 q
    refine wp_aload_n 0 dX0_placeOf_7 rfl ?_
    refine wp_getI (ci := 0) (j := 4) rfl (by decide) gX0_72 dX0_placeOf_8 c1 rfl (fun q => ?_)
    have f5 := q
    replace k := k q
    refine wp_aload_n 0 dX0_placeOf_11 rfl ?_
    refine wp_getI (ci := 0) (j := 5) rfl (by decide) gX0_55 dX0_placeOf_12 c1 rfl (fun q => ?_)
    have f6 := q
    replace k := k q
    have c7 := k.1
    replace k := k.2
    refine wp_iadd dX0_placeOf_15 c7 ?_
    refine wp_iconst dX0_placeOf_16 ⟨by decide, by decide⟩ ?_
    have c8 := k.1
    replace k := k.2
    refine wp_isub dX0_placeOf_17 c8 ?_
    refine wp_iload_n 1 dX0_placeOf_18 rfl ?_
    have c9 := k.1
    replace k := k.2
    refine wp_isub dX0_placeOf_19 c9 ?_
    refine wp_goto 29 dX0_placeOf_20 rfl ?_
    exact wp_iret dX0_placeOf_29 rfl k
theorem bX0_patternAt {d : Nat} {h : jH} {Q : jO → jH → Prop} {a0 : Nat} {a1 : Int} {a2 : Int} (k : jOK h → j32 a1 → j32 a2 → j32 (a1 + a2) ∧ hK h a0 = 1 ∧ (j32 (hI h 5 a0) → (((a1 + a2) ≤ (hI h 5 a0) → jWp (d + 1) mX0_patternAt 17 [(0, jR a0), (1, jI a1), (2, jI a2), (3, jI 0), (4, jI a1)] [] h Q) ∧ (¬ ((a1 + a2) ≤ (hI h 5 a0)) → Q (.inl (some (jI (-1)))) h)))) : jCall (d + 1) mX0_patternAt [jR a0, jI a1, jI a2] h Q := by
  refine jCall_of plX0 (Nat.le_of_ble_eq_true rfl) ?_
  show jWp (d + 1) mX0_patternAt 0 [(0, jR a0), (1, jI a1), (2, jI a2)] [] h Q
  refine jw_ok (fun ok q => ?_)
  replace k := k ok (q _ (.tail _ (.head _))) (q _ (.tail _ (.tail _ (.head _))))
  refine wp_iload_n 1 dX0_patternAt_0 rfl ?_
  refine wp_iload_n 2 dX0_patternAt_1 rfl ?_
  have c1 := k.1
  replace k := k.2
  refine wp_iadd dX0_patternAt_2 c1 ?_
  refine wp_aload_n 0 dX0_patternAt_3 rfl ?_
  have c2 := k.1
  replace k := k.2
  refine wp_getI (ci := 0) (j := 5) rfl (by decide) gX0_55 dX0_patternAt_4 c2 rfl (fun q => ?_)
  have f3 := q
  replace k := k q
  refine wp_icmp_le 12 dX0_patternAt_7 rfl (fun q => ?_) (fun q => ?_)
  · replace k := k.1 q
    refine wp_iconst dX0_patternAt_12 ⟨by decide, by decide⟩ ?_
    refine wp_istore_n [1, 2, 3, 0] (ls' := [(0, jR a0), (1, jI a1), (2, jI a2), (3, jI 0)]) dX0_patternAt_13 (by decide) rfl ?_
    refine wp_iload_n 1 dX0_patternAt_14 rfl ?_
    refine wp_istore [1, 2, 3, 4, 0] (ls' := [(0, jR a0), (1, jI a1), (2, jI a2), (3, jI 0), (4, jI a1)]) dX0_patternAt_15 (by decide) rfl ?_
    exact k
  · replace k := k.2 q
    refine wp_iconst dX0_patternAt_10 ⟨by decide, by decide⟩ ?_
    exact wp_iret dX0_patternAt_11 rfl k
theorem bX0_patternAt_17 {d : Nat} {h : jH} {Q : jO → jH → Prop} {a0 : Nat} {a1 : Int} {a2 : Int} {a3 : Int} {a4 : Int} (k : jOK h → j32 a1 → j32 a2 → j32 a3 → j32 a4 → j32 (a1 + a2) ∧ (((a1 + a2) ≤ a4 → Q (.inl (some (jI a3))) h) ∧ (¬ ((a1 + a2) ≤ a4) → j32 (a3 * 2) ∧ hK h a0 = 1 ∧ jCall d mX0_placeOf [jR a0, jI a4] h (fun o h35 => ∃ v35, o = .inl (some (jI v35)) ∧ hK h35 (hR h 3 a0) = 6 ∧ jCall d mX7_at [jR (hR h 3 a0), jI v35] h35 (fun o h38 => ∃ v38, o = .inl (some (jI v38)) ∧ j32 ((a3 * 2) + v38) ∧ j32 (a4 + 1) ∧ jWp (d + 1) mX0_patternAt 17 [(0, jR a0), (1, jI a1), (2, jI a2), (3, jI ((a3 * 2) + v38)), (4, jI (a4 + 1))] [] h38 Q))))) : jWp (d + 1) mX0_patternAt 17 [(0, jR a0), (1, jI a1), (2, jI a2), (3, jI a3), (4, jI a4)] [] h Q := by
  refine jw_ok (fun ok q => ?_)
  replace k := k ok (q _ (.tail _ (.head _))) (q _ (.tail _ (.tail _ (.head _)))) (q _ (.tail _ (.tail _ (.tail _ (.head _))))) (q _ (.tail _ (.tail _ (.tail _ (.tail _ (.head _))))))
  refine wp_iload 4 dX0_patternAt_17 rfl ?_
  refine wp_iload_n 1 dX0_patternAt_19 rfl ?_
  refine wp_iload_n 2 dX0_patternAt_20 rfl ?_
  have c1 := k.1
  replace k := k.2
  refine wp_iadd dX0_patternAt_21 c1 ?_
  refine wp_icmp_ge 49 dX0_patternAt_22 rfl (fun q => ?_) (fun q => ?_)
  · replace k := k.1 q
    refine wp_iload_n 3 dX0_patternAt_49 rfl ?_
    exact wp_iret dX0_patternAt_50 rfl k
  · replace k := k.2 q
    refine wp_iload_n 3 dX0_patternAt_25 rfl ?_
    refine wp_iconst dX0_patternAt_26 ⟨by decide, by decide⟩ ?_
    have c2 := k.1
    replace k := k.2
    refine wp_imul dX0_patternAt_27 c2 ?_
    refine wp_aload_n 0 dX0_patternAt_28 rfl ?_
    have c3 := k.1
    replace k := k.2
    refine wp_getR (ci := 0) (j := 3) rfl (by decide) gX0_27 dX0_patternAt_29 c3 rfl ?_
    refine wp_aload_n 0 dX0_patternAt_32 rfl ?_
    refine wp_iload 4 dX0_patternAt_33 rfl ?_
    refine wp_callV (ci := 0) (y' := mX0_placeOf) (st := [jR (hR h 3 a0), jI (a3 * 2)]) [jI a4] rfl rfl rfl fX0_placeOf kX0_94 nX0_placeOf dX0_patternAt_35 (Nat.le_of_ble_eq_true rfl) c3 ?_
    refine jCall.mono k (fun o h35 k => ?_)
    obtain ⟨v35, e, k⟩ := k
    subst e
    show jWp (d + 1) mX0_patternAt 38 [(0, jR a0), (1, jI a1), (2, jI a2), (3, jI a3), (4, jI a4)] [jI v35, jR (hR h 3 a0), jI (a3 * 2)] h35 Q
    have c4 := k.1
    replace k := k.2
    refine wp_callV (ci := 5) (y' := mX7_at) (st := [jI (a3 * 2)]) [jI v35] rfl rfl rfl fX7_at kX0_68 nX7_at dX0_patternAt_38 (Nat.le_of_ble_eq_true rfl) c4 ?_
    refine jCall.mono k (fun o h38 k => ?_)
    obtain ⟨v38, e, k⟩ := k
    subst e
    show jWp (d + 1) mX0_patternAt 41 [(0, jR a0), (1, jI a1), (2, jI a2), (3, jI a3), (4, jI a4)] [jI v38, jI (a3 * 2)] h38 Q
    have c5 := k.1
    replace k := k.2
    refine wp_iadd dX0_patternAt_41 c5 ?_
    refine wp_istore_n [1, 2, 3, 0, 4] (ls' := [(0, jR a0), (1, jI a1), (2, jI a2), (3, jI ((a3 * 2) + v38)), (4, jI a4)]) dX0_patternAt_42 (by decide) rfl ?_
    have c6 := k.1
    replace k := k.2
    refine wp_iinc 4 [1, 2, 3, 4, 0] (ls' := [(0, jR a0), (1, jI a1), (2, jI a2), (3, jI ((a3 * 2) + v38)), (4, jI (a4 + 1))]) dX0_patternAt_43 rfl c6 ⟨by decide, by decide⟩ (by decide) rfl ?_
    refine wp_goto 17 dX0_patternAt_46 rfl ?_
    exact k
theorem bX0_readCharacters {d : Nat} {h : jH} {Q : jO → jH → Prop} {a0 : Nat} (k : jOK h → jWp (d + 1) mX0_readCharacters 4 [(0, jR a0), (1, jI 0), (2, jI 0)] [] h Q) : jCall (d + 1) mX0_readCharacters [jR a0] h Q := by
  refine jCall_of plX0 (Nat.le_of_ble_eq_true rfl) ?_
  show jWp (d + 1) mX0_readCharacters 0 [(0, jR a0)] [] h Q
  refine jw_ok (fun ok q => ?_)
  replace k := k ok 
  refine wp_iconst dX0_readCharacters_0 ⟨by decide, by decide⟩ ?_
  refine wp_istore_n [1, 0] (ls' := [(0, jR a0), (1, jI 0)]) dX0_readCharacters_1 (by decide) rfl ?_
  refine wp_iconst dX0_readCharacters_2 ⟨by decide, by decide⟩ ?_
  refine wp_istore_n [1, 2, 0] (ls' := [(0, jR a0), (1, jI 0), (2, jI 0)]) dX0_readCharacters_3 (by decide) rfl ?_
  exact k
theorem bX0_readCharacters_4 {d : Nat} {h : jH} {Q : jO → jH → Prop} {a0 : Nat} {a1 : Int} {a2 : Int} (k : jOK h → j32 a1 → j32 a2 → ((100 ≤ a2 → hK h a0 = 1 ∧ (j32 (hI h 5 a0) → j32 ((hI h 5 a0) - 1) ∧ jCall d mJ9_min_7cf53 [jI a1, jI ((hI h 5 a0) - 1)] h (fun o h180 => ∃ v180, o = .inl (some (jI v180)) ∧ hK h180 a0 = 1 ∧ jCall d mX0_placeOf [jR a0, jI v180] h180 (fun o h183 => ∃ v183, o = .inl (some (jI v183)) ∧ hK h183 a0 = 1 ∧ jCall d mX0_noteFault [jR a0, jI 12, jI v183] h183 (fun o h186 => o = .inl none ∧ Q (.inl (some (jI 0))) h186))))) ∧ (¬ (100 ≤ a2) → hK h a0 = 1 ∧ jCall d mX0_patternAt [jR a0, jI a1, jI 13] h (fun o h18 => ∃ v18, o = .inl (some (jI v18)) ∧ hK h18 (hR h 0 a0) = 2 ∧ jCall d mX1_isStop [jR (hR h 0 a0), jI v18] h18 (fun o h21 => ∃ v21, o = .inl (some (jI v21)) ∧ ((v21 = 0 → hK h21 a0 = 1 ∧ jCall d mX0_patternAt [jR a0, jI a1, jI 11] h21 (fun o h42 => ∃ v42, o = .inl (some (jI v42)) ∧ hK h42 (hR h21 0 a0) = 2 ∧ jCall d mX1_characterOf [jR (hR h21 0 a0), jI v42] h42 (fun o h45 => ∃ v45, o = .inl (some (jI v45)) ∧ ((v45 < 103 → jWp (d + 1) mX0_readCharacters 66 [(0, jR a0), (1, jI a1), (2, jI a2), (3, jI v21), (4, jI v45)] [jI 0] h45 Q) ∧ (¬ (v45 < 103) → ((v21 ≠ 0 → jWp (d + 1) mX0_readCharacters 66 [(0, jR a0), (1, jI a1), (2, jI a2), (3, jI v21), (4, jI v45)] [jI 0] h45 Q) ∧ (v21 = 0 → jWp (d + 1) mX0_readCharacters 66 [(0, jR a0), (1, jI a1), (2, jI a2), (3, jI v21), (4, jI v45)] [jI 1] h45 Q))))))) ∧ (¬ (v21 = 0) → ((v21 ≠ 0 → jWp (d + 1) mX0_readCharacters 66 [(0, jR a0), (1, jI a1), (2, jI a2), (3, jI v21), (4, jI 106)] [jI 0] h21 Q) ∧ (v21 = 0 → jWp (d + 1) mX0_readCharacters 66 [(0, jR a0), (1, jI a1), (2, jI a2), (3, jI v21), (4, jI 106)] [jI 1] h21 Q))))))))) : jWp (d + 1) mX0_readCharacters 4 [(0, jR a0), (1, jI a1), (2, jI a2)] [] h Q := by
  refine jw_ok (fun ok q => ?_)
  replace k := k ok (q _ (.tail _ (.head _))) (q _ (.tail _ (.tail _ (.head _))))
  refine wp_iload_n 2 dX0_readCharacters_4 rfl ?_
  refine wp_bipush dX0_readCharacters_5 ⟨by decide, by decide⟩ ?_
  refine wp_icmp_ge 169 dX0_readCharacters_7 rfl (fun q => ?_) (fun q => ?_)
  · replace k := k.1 q
    refine wp_aload_n 0 dX0_readCharacters_169 rfl ?_
    refine wp_bipush dX0_readCharacters_170 ⟨by decide, by decide⟩ ?_
    refine wp_aload_n 0 dX0_readCharacters_172 rfl ?_
    refine wp_iload_n 1 dX0_readCharacters_173 rfl ?_
    refine wp_aload_n 0 dX0_readCharacters_174 rfl ?_
    have c1 := k.1
    replace k := k.2
    refine wp_getI (ci := 0) (j := 5) rfl (by decide) gX0_55 dX0_readCharacters_175 c1 rfl (fun q => ?_)
    have f2 := q
    replace k := k q
    refine wp_iconst dX0_readCharacters_178 ⟨by decide, by decide⟩ ?_
    have c3 := k.1
    replace k := k.2
    refine wp_isub dX0_readCharacters_179 c3 ?_
    refine wp_callS (y' := mJ9_min_7cf53) (st := [jR a0, jI 12, jR a0]) [jI a1, jI ((hI h 5 a0) - 1)] rfl fJ9_min_7cf53 kX0_104 nJ9_min_7cf53 dX0_readCharacters_180 (Nat.le_of_ble_eq_true rfl) ?_
    refine jCall.mono k (fun o h180 k => ?_)
    obtain ⟨v180, e, k⟩ := k
    subst e
    show jWp (d + 1) mX0_readCharacters 183 [(0, jR a0), (1, jI a1), (2, jI a2)] [jI v180, jR a0, jI 12, jR a0] h180 Q
    have c4 := k.1
    replace k := k.2
    refine wp_callV (ci := 0) (y' := mX0_placeOf) (st := [jI 12, jR a0]) [jI v180] rfl rfl rfl fX0_placeOf kX0_94 nX0_placeOf dX0_readCharacters_183 (Nat.le_of_ble_eq_true rfl) c4 ?_
    refine jCall.mono k (fun o h183 k => ?_)
    obtain ⟨v183, e, k⟩ := k
    subst e
    show jWp (d + 1) mX0_readCharacters 186 [(0, jR a0), (1, jI a1), (2, jI a2)] [jI v183, jI 12, jR a0] h183 Q
    have c5 := k.1
    replace k := k.2
    refine wp_callV (ci := 0) (y' := mX0_noteFault) (st := []) [jI 12, jI v183] rfl rfl rfl fX0_noteFault kX0_48 nX0_noteFault dX0_readCharacters_186 (Nat.le_of_ble_eq_true rfl) c5 ?_
    refine jCall.mono k (fun o h186 k => ?_)
    obtain ⟨e, k⟩ := k
    subst e
    show jWp (d + 1) mX0_readCharacters 189 [(0, jR a0), (1, jI a1), (2, jI a2)] [] h186 Q
    refine wp_iconst dX0_readCharacters_189 ⟨by decide, by decide⟩ ?_
    exact wp_zreturn dX0_readCharacters_190 rfl (by decide) (by decide) k
  · replace k := k.2 q
    refine wp_aload_n 0 dX0_readCharacters_10 rfl ?_
    have c6 := k.1
    replace k := k.2
    refine wp_getR (ci := 0) (j := 0) rfl (by decide) gX0_9 dX0_readCharacters_11 c6 rfl ?_
    refine wp_aload_n 0 dX0_readCharacters_14 rfl ?_
    refine wp_iload_n 1 dX0_readCharacters_15 rfl ?_
    refine wp_bipush dX0_readCharacters_16 ⟨by decide, by decide⟩ ?_
    refine wp_callV (ci := 0) (y' := mX0_patternAt) (st := [jR (hR h 0 a0)]) [jI a1, jI 13] rfl rfl rfl fX0_patternAt kX0_86 nX0_patternAt dX0_readCharacters_18 (Nat.le_of_ble_eq_true rfl) c6 ?_
    refine jCall.mono k (fun o h18 k => ?_)
    obtain ⟨v18, e, k⟩ := k
    subst e
    show jWp (d + 1) mX0_readCharacters 21 [(0, jR a0), (1, jI a1), (2, jI a2)] [jI v18, jR (hR h 0 a0)] h18 Q
    have c7 := k.1
    replace k := k.2
    refine wp_callV (ci := 1) (y' := mX1_isStop) (st := []) [jI v18] rfl rfl rfl fX1_isStop kX0_97 nX1_isStop dX0_readCharacters_21 (Nat.le_of_ble_eq_true rfl) c7 ?_
    refine jCall.mono k (fun o h21 k => ?_)
    obtain ⟨v21, e, k⟩ := k
    subst e
    show jWp (d + 1) mX0_readCharacters 24 [(0, jR a0), (1, jI a1), (2, jI a2)] [jI v21] h21 Q
    refine wp_istore_n [1, 2, 3, 0] (ls' := [(0, jR a0), (1, jI a1), (2, jI a2), (3, jI v21)]) dX0_readCharacters_24 (by decide) rfl ?_
    refine wp_iload_n 3 dX0_readCharacters_25 rfl ?_
    refine wp_if_eq 34 dX0_readCharacters_26 rfl (fun q => ?_) (fun q => ?_)
    · replace k := k.1 q
      refine wp_aload_n 0 dX0_readCharacters_34 rfl ?_
      have c8 := k.1
      replace k := k.2
      refine wp_getR (ci := 0) (j := 0) rfl (by decide) gX0_9 dX0_readCharacters_35 c8 rfl ?_
      refine wp_aload_n 0 dX0_readCharacters_38 rfl ?_
      refine wp_iload_n 1 dX0_readCharacters_39 rfl ?_
      refine wp_bipush dX0_readCharacters_40 ⟨by decide, by decide⟩ ?_
      refine wp_callV (ci := 0) (y' := mX0_patternAt) (st := [jR (hR h21 0 a0)]) [jI a1, jI 11] rfl rfl rfl fX0_patternAt kX0_86 nX0_patternAt dX0_readCharacters_42 (Nat.le_of_ble_eq_true rfl) c8 ?_
      refine jCall.mono k (fun o h42 k => ?_)
      obtain ⟨v42, e, k⟩ := k
      subst e
      show jWp (d + 1) mX0_readCharacters 45 [(0, jR a0), (1, jI a1), (2, jI a2), (3, jI v21)] [jI v42, jR (hR h21 0 a0)] h42 Q
      have c9 := k.1
      replace k := k.2
      refine wp_callV (ci := 1) (y' := mX1_characterOf) (st := []) [jI v42] rfl rfl rfl fX1_characterOf kX0_89 nX1_characterOf dX0_readCharacters_45 (Nat.le_of_ble_eq_true rfl) c9 ?_
      refine jCall.mono k (fun o h45 k => ?_)
      obtain ⟨v45, e, k⟩ := k
      subst e
      show jWp (d + 1) mX0_readCharacters 48 [(0, jR a0), (1, jI a1), (2, jI a2), (3, jI v21)] [jI v45] h45 Q
      refine wp_istore [1, 2, 3, 4, 0] (ls' := [(0, jR a0), (1, jI a1), (2, jI a2), (3, jI v21), (4, jI v45)]) dX0_readCharacters_48 (by decide) rfl ?_
      refine wp_iload 4 dX0_readCharacters_50 rfl ?_
      refine wp_bipush dX0_readCharacters_52 ⟨by decide, by decide⟩ ?_
      refine wp_icmp_lt 65 dX0_readCharacters_54 rfl (fun q => ?_) (fun q => ?_)
      · replace k := k.1 q
        refine wp_iconst dX0_readCharacters_65 ⟨by decide, by decide⟩ ?_
        exact k
      · replace k := k.2 q
        refine wp_iload_n 3 dX0_readCharacters_57 rfl ?_
        refine wp_if_ne 65 dX0_readCharacters_58 rfl (fun q => ?_) (fun q => ?_)
        · replace k := k.1 q
          refine wp_iconst dX0_readCharacters_65 ⟨by decide, by decide⟩ ?_
          exact k
        · replace k := k.2 q
          refine wp_iconst dX0_readCharacters_61 ⟨by decide, by decide⟩ ?_
          refine wp_goto 66 dX0_readCharacters_62 rfl ?_
          exact k
    · replace k := k.2 q
      refine wp_bipush dX0_readCharacters_29 ⟨by decide, by decide⟩ ?_
      refine wp_goto 48 dX0_readCharacters_31 rfl ?_
      refine wp_istore [1, 2, 3, 4, 0] (ls' := [(0, jR a0), (1, jI a1), (2, jI a2), (3, jI v21), (4, jI 106)]) dX0_readCharacters_48 (by decide) rfl ?_
      refine wp_iload 4 dX0_readCharacters_50 rfl ?_
      refine wp_bipush dX0_readCharacters_52 ⟨by decide, by decide⟩ ?_
      refine wp_icmp_lt 65 dX0_readCharacters_54 rfl (fun q => absurd q (by decide)) (fun q => ?_)
      refine wp_iload_n 3 dX0_readCharacters_57 rfl ?_
      refine wp_if_ne 65 dX0_readCharacters_58 rfl (fun q => ?_) (fun q => ?_)
      · replace k := k.1 q
        refine wp_iconst dX0_readCharacters_65 ⟨by decide, by decide⟩ ?_
        exact k
      · replace k := k.2 q
        refine wp_iconst dX0_readCharacters_61 ⟨by decide, by decide⟩ ?_
        refine wp_goto 66 dX0_readCharacters_62 rfl ?_
        exact k
theorem bX0_readCharacters_66 {d : Nat} {h : jH} {Q : jO → jH → Prop} {a0 : Nat} {a1 : Int} {a2 : Int} {a3 : Int} {a4 : Int} {s0 : Int} (k : jOK h → j32 a1 → j32 a2 → j32 a3 → j32 a4 → ((a4 = (-1) → hK h a0 = 1 ∧ (j32 (hI h 5 a0) → j32 ((hI h 5 a0) - 1) ∧ jCall d mJ9_min_7cf53 [jI a1, jI ((hI h 5 a0) - 1)] h (fun o h180 => ∃ v180, o = .inl (some (jI v180)) ∧ hK h180 a0 = 1 ∧ jCall d mX0_placeOf [jR a0, jI v180] h180 (fun o h183 => ∃ v183, o = .inl (some (jI v183)) ∧ hK h183 a0 = 1 ∧ jCall d mX0_noteFault [jR a0, jI 12, jI v183] h183 (fun o h186 => o = .inl none ∧ Q (.inl (some (jI 0))) h186))))) ∧ (¬ (a4 = (-1)) → ((a2 ≠ 0 → jWp (d + 1) mX0_readCharacters 85 [(0, jR a0), (1, jI a1), (2, jI a2), (3, jI a3), (4, jI a4)] [jI 0, jI s0] h Q) ∧ (a2 = 0 → jWp (d + 1) mX0_readCharacters 85 [(0, jR a0), (1, jI a1), (2, jI a2), (3, jI a3), (4, jI a4)] [jI 1, jI s0] h Q))))) : jWp (d + 1) mX0_readCharacters 66 [(0, jR a0), (1, jI a1), (2, jI a2), (3, jI a3), (4, jI a4)] [jI s0] h Q := by
  refine jw_ok (fun ok q => ?_)
  replace k := k ok (q _ (.tail _ (.head _))) (q _ (.tail _ (.tail _ (.head _)))) (q _ (.tail _ (.tail _ (.tail _ (.head _))))) (q _ (.tail _ (.tail _ (.tail _ (.tail _ (.head _))))))
  refine wp_istore [1, 2, 3, 4, 5, 0] (ls' := [(0, jR a0), (1, jI a1), (2, jI a2), (3, jI a3), (4, jI a4), (5, jI s0)]) dX0_readCharacters_66 (by decide) rfl ?_
  refine wp_iload 4 dX0_readCharacters_68 rfl ?_
  refine wp_iconst dX0_readCharacters_70 ⟨by decide, by decide⟩ ?_
  refine wp_icmp_eq 169 dX0_readCharacters_71 rfl (fun q => ?_) (fun q => ?_)
  · replace k := k.1 q
    refine wp_aload_n 0 dX0_readCharacters_169 rfl ?_
    refine wp_bipush dX0_readCharacters_170 ⟨by decide, by decide⟩ ?_
    refine wp_aload_n 0 dX0_readCharacters_172 rfl ?_
    refine wp_iload_n 1 dX0_readCharacters_173 rfl ?_
    refine wp_aload_n 0 dX0_readCharacters_174 rfl ?_
    have c1 := k.1
    replace k := k.2
    refine wp_getI (ci := 0) (j := 5) rfl (by decide) gX0_55 dX0_readCharacters_175 c1 rfl (fun q => ?_)
    have f2 := q
    replace k := k q
    refine wp_iconst dX0_readCharacters_178 ⟨by decide, by decide⟩ ?_
    have c3 := k.1
    replace k := k.2
    refine wp_isub dX0_readCharacters_179 c3 ?_
    refine wp_callS (y' := mJ9_min_7cf53) (st := [jR a0, jI 12, jR a0]) [jI a1, jI ((hI h 5 a0) - 1)] rfl fJ9_min_7cf53 kX0_104 nJ9_min_7cf53 dX0_readCharacters_180 (Nat.le_of_ble_eq_true rfl) ?_
    refine jCall.mono k (fun o h180 k => ?_)
    obtain ⟨v180, e, k⟩ := k
    subst e
    show jWp (d + 1) mX0_readCharacters 183 [(0, jR a0), (1, jI a1), (2, jI a2), (3, jI a3), (4, jI a4), (5, jI s0)] [jI v180, jR a0, jI 12, jR a0] h180 Q
    have c4 := k.1
    replace k := k.2
    refine wp_callV (ci := 0) (y' := mX0_placeOf) (st := [jI 12, jR a0]) [jI v180] rfl rfl rfl fX0_placeOf kX0_94 nX0_placeOf dX0_readCharacters_183 (Nat.le_of_ble_eq_true rfl) c4 ?_
    refine jCall.mono k (fun o h183 k => ?_)
    obtain ⟨v183, e, k⟩ := k
    subst e
    show jWp (d + 1) mX0_readCharacters 186 [(0, jR a0), (1, jI a1), (2, jI a2), (3, jI a3), (4, jI a4), (5, jI s0)] [jI v183, jI 12, jR a0] h183 Q
    have c5 := k.1
    replace k := k.2
    refine wp_callV (ci := 0) (y' := mX0_noteFault) (st := []) [jI 12, jI v183] rfl rfl rfl fX0_noteFault kX0_48 nX0_noteFault dX0_readCharacters_186 (Nat.le_of_ble_eq_true rfl) c5 ?_
    refine jCall.mono k (fun o h186 k => ?_)
    obtain ⟨e, k⟩ := k
    subst e
    show jWp (d + 1) mX0_readCharacters 189 [(0, jR a0), (1, jI a1), (2, jI a2), (3, jI a3), (4, jI a4), (5, jI s0)] [] h186 Q
    refine wp_iconst dX0_readCharacters_189 ⟨by decide, by decide⟩ ?_
    exact wp_zreturn dX0_readCharacters_190 rfl (by decide) (by decide) k
  · replace k := k.2 q
    refine wp_iload 5 dX0_readCharacters_74 rfl ?_
    refine wp_iload_n 2 dX0_readCharacters_76 rfl ?_
    refine wp_if_ne 84 dX0_readCharacters_77 rfl (fun q => ?_) (fun q => ?_)
    · replace k := k.1 q
      refine wp_iconst dX0_readCharacters_84 ⟨by decide, by decide⟩ ?_
      refine wp_sub [0, 1, 2, 3, 4] (ls' := [(0, jR a0), (1, jI a1), (2, jI a2), (3, jI a3), (4, jI a4)]) rfl ?_
      exact k
    · replace k := k.2 q
      refine wp_iconst dX0_readCharacters_80 ⟨by decide, by decide⟩ ?_
      refine wp_goto 85 dX0_readCharacters_81 rfl ?_
      refine wp_sub [0, 1, 2, 3, 4] (ls' := [(0, jR a0), (1, jI a1), (2, jI a2), (3, jI a3), (4, jI a4)]) rfl ?_
      exact k
theorem bX0_readCharacters_85 {d : Nat} {h : jH} {Q : jO → jH → Prop} {a0 : Nat} {a1 : Int} {a2 : Int} {a3 : Int} {a4 : Int} {s0 : Int} {s1 : Int} (k : jOK h → j32 a1 → j32 a2 → j32 a3 → j32 a4 → ((s1 = s0 → hK h a0 = 1 ∧ hK h (hR h 1 a0) = 6 ∧ jCall d mX7_put [jR (hR h 1 a0), jI a4] h (fun o h97 => o = .inl none ∧ hK h97 a0 = 1 ∧ jCall d mX0_placeOf [jR a0, jI a1] h97 (fun o h106 => ∃ v106, o = .inl (some (jI v106)) ∧ hK h106 (hR h97 2 a0) = 6 ∧ jCall d mX7_put [jR (hR h97 2 a0), jI v106] h106 (fun o h109 => o = .inl none ∧ ((a3 = 0 → j32 (a1 + 11) ∧ ((a3 = 0 → j32 (a2 + 1) ∧ jWp (d + 1) mX0_readCharacters 4 [(0, jR a0), (1, jI (a1 + 11)), (2, jI (a2 + 1))] [] h109 Q) ∧ (¬ (a3 = 0) → hK h109 a0 = 1 ∧ (j32 (hI h109 5 a0) → (((hI h109 5 a0) ≤ (a1 + 11) → jWp (d + 1) mX0_readCharacters 149 [(0, jR a0), (1, jI (a1 + 11))] [] h109 Q) ∧ (¬ ((hI h109 5 a0) ≤ (a1 + 11)) → jCall d mX0_placeOf [jR a0, jI (a1 + 11)] h109 (fun o h143 => ∃ v143, o = .inl (some (jI v143)) ∧ hK h143 a0 = 1 ∧ jCall d mX0_noteFault [jR a0, jI 13, jI v143] h143 (fun o h146 => o = .inl none ∧ jWp (d + 1) mX0_readCharacters 149 [(0, jR a0), (1, jI (a1 + 11))] [] h146 Q)))))))) ∧ (¬ (a3 = 0) → j32 (a1 + 13) ∧ ((a3 = 0 → j32 (a2 + 1) ∧ jWp (d + 1) mX0_readCharacters 4 [(0, jR a0), (1, jI (a1 + 13)), (2, jI (a2 + 1))] [] h109 Q) ∧ (¬ (a3 = 0) → hK h109 a0 = 1 ∧ (j32 (hI h109 5 a0) → (((hI h109 5 a0) ≤ (a1 + 13) → jWp (d + 1) mX0_readCharacters 149 [(0, jR a0), (1, jI (a1 + 13))] [] h109 Q) ∧ (¬ ((hI h109 5 a0) ≤ (a1 + 13)) → jCall d mX0_placeOf [jR a0, jI (a1 + 13)] h109 (fun o h143_1 => ∃ v143_1, o = .inl (some (jI v143_1)) ∧ hK h143_1 a0 = 1 ∧ jCall d mX0_noteFault [jR a0, jI 13, jI v143_1] h143_1 (fun o h146_1 => o = .inl none ∧ jWp (d + 1) mX0_readCharacters 149 [(0, jR a0), (1, jI (a1 + 13))] [] h146_1 Q))))))))))))) ∧ (¬ (s1 = s0) → hK h a0 = 1 ∧ (j32 (hI h 5 a0) → j32 ((hI h 5 a0) - 1) ∧ jCall d mJ9_min_7cf53 [jI a1, jI ((hI h 5 a0) - 1)] h (fun o h180 => ∃ v180, o = .inl (some (jI v180)) ∧ hK h180 a0 = 1 ∧ jCall d mX0_placeOf [jR a0, jI v180] h180 (fun o h183 => ∃ v183, o = .inl (some (jI v183)) ∧ hK h183 a0 = 1 ∧ jCall d mX0_noteFault [jR a0, jI 12, jI v183] h183 (fun o h186 => o = .inl none ∧ Q (.inl (some (jI 0))) h186))))))) : jWp (d + 1) mX0_readCharacters 85 [(0, jR a0), (1, jI a1), (2, jI a2), (3, jI a3), (4, jI a4)] [jI s0, jI s1] h Q := by
  refine jw_ok (fun ok q => ?_)
  replace k := k ok (q _ (.tail _ (.head _))) (q _ (.tail _ (.tail _ (.head _)))) (q _ (.tail _ (.tail _ (.tail _ (.head _))))) (q _ (.tail _ (.tail _ (.tail _ (.tail _ (.head _))))))
  refine wp_icmp_eq 91 dX0_readCharacters_85 rfl (fun q => ?_) (fun q => ?_)
  · replace k := k.1 q
    refine wp_aload_n 0 dX0_readCharacters_91 rfl ?_
    have c1 := k.1
    replace k := k.2
    refine wp_getR (ci := 0) (j := 1) rfl (by decide) gX0_20 dX0_readCharacters_92 c1 rfl ?_
    refine wp_iload 4 dX0_readCharacters_95 rfl ?_
    have c2 := k.1
    replace k := k.2
    refine wp_callV (ci := 5) (y' := mX7_put) (st := []) [jI a4] rfl rfl rfl fX7_put kX0_101 nX7_put dX0_readCharacters_97 (Nat.le_of_ble_eq_true rfl) c2 ?_
    refine jCall.mono k (fun o h97 k => ?_)
    obtain ⟨e, k⟩ := k
    subst e
    show jWp (d + 1) mX0_readCharacters 100 [(0, jR a0), (1, jI a1), (2, jI a2), (3, jI a3), (4, jI a4)] [] h97 Q
    refine wp_aload_n 0 dX0_readCharacters_100 rfl ?_
    have c3 := k.1
    replace k := k.2
    refine wp_getR (ci := 0) (j := 2) rfl (by decide) gX0_24 dX0_readCharacters_101 c3 rfl ?_
    refine wp_aload_n 0 dX0_readCharacters_104 rfl ?_
    refine wp_iload_n 1 dX0_readCharacters_105 rfl ?_
    refine wp_callV (ci := 0) (y' := mX0_placeOf) (st := [jR (hR h97 2 a0)]) [jI a1] rfl rfl rfl fX0_placeOf kX0_94 nX0_placeOf dX0_readCharacters_106 (Nat.le_of_ble_eq_true rfl) c3 ?_
    refine jCall.mono k (fun o h106 k => ?_)
    obtain ⟨v106, e, k⟩ := k
    subst e
    show jWp (d + 1) mX0_readCharacters 109 [(0, jR a0), (1, jI a1), (2, jI a2), (3, jI a3), (4, jI a4)] [jI v106, jR (hR h97 2 a0)] h106 Q
    have c4 := k.1
    replace k := k.2
    refine wp_callV (ci := 5) (y' := mX7_put) (st := []) [jI v106] rfl rfl rfl fX7_put kX0_101 nX7_put dX0_readCharacters_109 (Nat.le_of_ble_eq_true rfl) c4 ?_
    refine jCall.mono k (fun o h109 k => ?_)
    obtain ⟨e, k⟩ := k
    subst e
    show jWp (d + 1) mX0_readCharacters 112 [(0, jR a0), (1, jI a1), (2, jI a2), (3, jI a3), (4, jI a4)] [] h109 Q
    refine wp_iload_n 1 dX0_readCharacters_112 rfl ?_
    refine wp_iload_n 3 dX0_readCharacters_113 rfl ?_
    refine wp_if_eq 122 dX0_readCharacters_114 rfl (fun q => ?_) (fun q => ?_)
    · replace k := k.1 q
      refine wp_bipush dX0_readCharacters_122 ⟨by decide, by decide⟩ ?_
      have c5 := k.1
      replace k := k.2
      refine wp_iadd dX0_readCharacters_124 c5 ?_
      refine wp_istore_n [1, 0, 2, 3] (ls' := [(0, jR a0), (1, jI (a1 + 11)), (2, jI a2), (3, jI a3)]) dX0_readCharacters_125 (by decide) rfl ?_
      refine wp_iload_n 3 dX0_readCharacters_126 rfl ?_
      refine wp_if_eq 163 dX0_readCharacters_127 rfl (fun q => ?_) (fun q => ?_)
      · replace k := k.1 q
        have c6 := k.1
        replace k := k.2
        refine wp_iinc 2 [1, 2, 0] (ls' := [(0, jR a0), (1, jI (a1 + 11)), (2, jI (a2 + 1))]) dX0_readCharacters_163 rfl c6 ⟨by decide, by decide⟩ (by decide) rfl ?_
        refine wp_goto 4 dX0_readCharacters_166 rfl ?_
        exact k
      · replace k := k.2 q
        refine wp_iload_n 1 dX0_readCharacters_130 rfl ?_
        refine wp_aload_n 0 dX0_readCharacters_131 rfl ?_
        have c7 := k.1
        replace k := k.2
        refine wp_getI (ci := 0) (j := 5) rfl (by decide) gX0_55 dX0_readCharacters_132 c7 rfl (fun q => ?_)
        have f8 := q
        replace k := k q
        refine wp_icmp_ge 149 dX0_readCharacters_135 rfl (fun q => ?_) (fun q => ?_)
        · replace k := k.1 q
          refine wp_sub [0, 1] (ls' := [(0, jR a0), (1, jI (a1 + 11))]) rfl ?_
          exact k
        · replace k := k.2 q
          refine wp_aload_n 0 dX0_readCharacters_138 rfl ?_
          refine wp_bipush dX0_readCharacters_139 ⟨by decide, by decide⟩ ?_
          refine wp_aload_n 0 dX0_readCharacters_141 rfl ?_
          refine wp_iload_n 1 dX0_readCharacters_142 rfl ?_
          refine wp_callV (ci := 0) (y' := mX0_placeOf) (st := [jI 13, jR a0]) [jI (a1 + 11)] rfl rfl rfl fX0_placeOf kX0_94 nX0_placeOf dX0_readCharacters_143 (Nat.le_of_ble_eq_true rfl) c7 ?_
          refine jCall.mono k (fun o h143 k => ?_)
          obtain ⟨v143, e, k⟩ := k
          subst e
          show jWp (d + 1) mX0_readCharacters 146 [(0, jR a0), (1, jI (a1 + 11)), (2, jI a2), (3, jI a3)] [jI v143, jI 13, jR a0] h143 Q
          have c9 := k.1
          replace k := k.2
          refine wp_callV (ci := 0) (y' := mX0_noteFault) (st := []) [jI 13, jI v143] rfl rfl rfl fX0_noteFault kX0_48 nX0_noteFault dX0_readCharacters_146 (Nat.le_of_ble_eq_true rfl) c9 ?_
          refine jCall.mono k (fun o h146 k => ?_)
          obtain ⟨e, k⟩ := k
          subst e
          show jWp (d + 1) mX0_readCharacters 149 [(0, jR a0), (1, jI (a1 + 11)), (2, jI a2), (3, jI a3)] [] h146 Q
          refine wp_sub [0, 1] (ls' := [(0, jR a0), (1, jI (a1 + 11))]) rfl ?_
          exact k
    · replace k := k.2 q
      refine wp_bipush dX0_readCharacters_117 ⟨by decide, by decide⟩ ?_
      refine wp_goto 124 dX0_readCharacters_119 rfl ?_
      have c10 := k.1
      replace k := k.2
      refine wp_iadd dX0_readCharacters_124 c10 ?_
      refine wp_istore_n [1, 0, 2, 3] (ls' := [(0, jR a0), (1, jI (a1 + 13)), (2, jI a2), (3, jI a3)]) dX0_readCharacters_125 (by decide) rfl ?_
      refine wp_iload_n 3 dX0_readCharacters_126 rfl ?_
      refine wp_if_eq 163 dX0_readCharacters_127 rfl (fun q => ?_) (fun q => ?_)
      · replace k := k.1 q
        have c11 := k.1
        replace k := k.2
        refine wp_iinc 2 [1, 2, 0] (ls' := [(0, jR a0), (1, jI (a1 + 13)), (2, jI (a2 + 1))]) dX0_readCharacters_163 rfl c11 ⟨by decide, by decide⟩ (by decide) rfl ?_
        refine wp_goto 4 dX0_readCharacters_166 rfl ?_
        exact k
      · replace k := k.2 q
        refine wp_iload_n 1 dX0_readCharacters_130 rfl ?_
        refine wp_aload_n 0 dX0_readCharacters_131 rfl ?_
        have c12 := k.1
        replace k := k.2
        refine wp_getI (ci := 0) (j := 5) rfl (by decide) gX0_55 dX0_readCharacters_132 c12 rfl (fun q => ?_)
        have f13 := q
        replace k := k q
        refine wp_icmp_ge 149 dX0_readCharacters_135 rfl (fun q => ?_) (fun q => ?_)
        · replace k := k.1 q
          refine wp_sub [0, 1] (ls' := [(0, jR a0), (1, jI (a1 + 13))]) rfl ?_
          exact k
        · replace k := k.2 q
          refine wp_aload_n 0 dX0_readCharacters_138 rfl ?_
          refine wp_bipush dX0_readCharacters_139 ⟨by decide, by decide⟩ ?_
          refine wp_aload_n 0 dX0_readCharacters_141 rfl ?_
          refine wp_iload_n 1 dX0_readCharacters_142 rfl ?_
          refine wp_callV (ci := 0) (y' := mX0_placeOf) (st := [jI 13, jR a0]) [jI (a1 + 13)] rfl rfl rfl fX0_placeOf kX0_94 nX0_placeOf dX0_readCharacters_143 (Nat.le_of_ble_eq_true rfl) c12 ?_
          refine jCall.mono k (fun o h143_1 k => ?_)
          obtain ⟨v143_1, e, k⟩ := k
          subst e
          show jWp (d + 1) mX0_readCharacters 146 [(0, jR a0), (1, jI (a1 + 13)), (2, jI a2), (3, jI a3)] [jI v143_1, jI 13, jR a0] h143_1 Q
          have c14 := k.1
          replace k := k.2
          refine wp_callV (ci := 0) (y' := mX0_noteFault) (st := []) [jI 13, jI v143_1] rfl rfl rfl fX0_noteFault kX0_48 nX0_noteFault dX0_readCharacters_146 (Nat.le_of_ble_eq_true rfl) c14 ?_
          refine jCall.mono k (fun o h146_1 k => ?_)
          obtain ⟨e, k⟩ := k
          subst e
          show jWp (d + 1) mX0_readCharacters 149 [(0, jR a0), (1, jI (a1 + 13)), (2, jI a2), (3, jI a3)] [] h146_1 Q
          refine wp_sub [0, 1] (ls' := [(0, jR a0), (1, jI (a1 + 13))]) rfl ?_
          exact k
  · replace k := k.2 q
    refine wp_goto 169 dX0_readCharacters_88 rfl ?_
    refine wp_aload_n 0 dX0_readCharacters_169 rfl ?_
    refine wp_bipush dX0_readCharacters_170 ⟨by decide, by decide⟩ ?_
    refine wp_aload_n 0 dX0_readCharacters_172 rfl ?_
    refine wp_iload_n 1 dX0_readCharacters_173 rfl ?_
    refine wp_aload_n 0 dX0_readCharacters_174 rfl ?_
    have c15 := k.1
    replace k := k.2
    refine wp_getI (ci := 0) (j := 5) rfl (by decide) gX0_55 dX0_readCharacters_175 c15 rfl (fun q => ?_)
    have f16 := q
    replace k := k q
    refine wp_iconst dX0_readCharacters_178 ⟨by decide, by decide⟩ ?_
    have c17 := k.1
    replace k := k.2
    refine wp_isub dX0_readCharacters_179 c17 ?_
    refine wp_callS (y' := mJ9_min_7cf53) (st := [jR a0, jI 12, jR a0]) [jI a1, jI ((hI h 5 a0) - 1)] rfl fJ9_min_7cf53 kX0_104 nJ9_min_7cf53 dX0_readCharacters_180 (Nat.le_of_ble_eq_true rfl) ?_
    refine jCall.mono k (fun o h180 k => ?_)
    obtain ⟨v180, e, k⟩ := k
    subst e
    show jWp (d + 1) mX0_readCharacters 183 [(0, jR a0), (1, jI a1), (2, jI a2), (3, jI a3), (4, jI a4)] [jI v180, jR a0, jI 12, jR a0] h180 Q
    have c18 := k.1
    replace k := k.2
    refine wp_callV (ci := 0) (y' := mX0_placeOf) (st := [jI 12, jR a0]) [jI v180] rfl rfl rfl fX0_placeOf kX0_94 nX0_placeOf dX0_readCharacters_183 (Nat.le_of_ble_eq_true rfl) c18 ?_
    refine jCall.mono k (fun o h183 k => ?_)
    obtain ⟨v183, e, k⟩ := k
    subst e
    show jWp (d + 1) mX0_readCharacters 186 [(0, jR a0), (1, jI a1), (2, jI a2), (3, jI a3), (4, jI a4)] [jI v183, jI 12, jR a0] h183 Q
    have c19 := k.1
    replace k := k.2
    refine wp_callV (ci := 0) (y' := mX0_noteFault) (st := []) [jI 12, jI v183] rfl rfl rfl fX0_noteFault kX0_48 nX0_noteFault dX0_readCharacters_186 (Nat.le_of_ble_eq_true rfl) c19 ?_
    refine jCall.mono k (fun o h186 k => ?_)
    obtain ⟨e, k⟩ := k
    subst e
    show jWp (d + 1) mX0_readCharacters 189 [(0, jR a0), (1, jI a1), (2, jI a2), (3, jI a3), (4, jI a4)] [] h186 Q
    refine wp_iconst dX0_readCharacters_189 ⟨by decide, by decide⟩ ?_
    exact wp_zreturn dX0_readCharacters_190 rfl (by decide) (by decide) k
theorem bX0_readCharacters_149 {d : Nat} {h : jH} {Q : jO → jH → Prop} {a0 : Nat} {a1 : Int} (k : jOK h → j32 a1 → hK h a0 = 1 ∧ (j32 (hI h 5 a0) → ((a1 < (hI h 5 a0) → jWp (d + 1) mX0_readCharacters 162 [] [jI 0] h Q) ∧ (¬ (a1 < (hI h 5 a0)) → jWp (d + 1) mX0_readCharacters 162 [] [jI 1] h Q)))) : jWp (d + 1) mX0_readCharacters 149 [(0, jR a0), (1, jI a1)] [] h Q := by
  refine jw_ok (fun ok q => ?_)
  replace k := k ok (q _ (.tail _ (.head _)))
  refine wp_iload_n 1 dX0_readCharacters_149 rfl ?_
  refine wp_aload_n 0 dX0_readCharacters_150 rfl ?_
  have c1 := k.1
  replace k := k.2
  refine wp_getI (ci := 0) (j := 5) rfl (by decide) gX0_55 dX0_readCharacters_151 c1 rfl (fun q => ?_)
  have f2 := q
  replace k := k q
  refine wp_icmp_lt 161 dX0_readCharacters_154 rfl (fun q => ?_) (fun q => ?_)
  · replace k := k.1 q
    refine wp_iconst dX0_readCharacters_161 ⟨by decide, by decide⟩ ?_
    refine wp_sub [] (ls' := []) rfl ?_
    exact k
  · replace k := k.2 q
    refine wp_iconst dX0_readCharacters_157 ⟨by decide, by decide⟩ ?_
    refine wp_goto 162 dX0_readCharacters_158 rfl ?_
    refine wp_sub [] (ls' := []) rfl ?_
    exact k
theorem bX0_readCharacters_162 {d : Nat} {h : jH} {Q : jO → jH → Prop} {s0 : Int} (k : jOK h → (0 ≤ s0 ∧ s0 ≤ 1) ∧ Q (.inl (some (jI s0))) h) : jWp (d + 1) mX0_readCharacters 162 [] [jI s0] h Q := by
  refine jw_ok (fun ok q => ?_)
  replace k := k ok 
  have c1 := k.1
  replace k := k.2
  exact wp_zreturn dX0_readCharacters_162 rfl c1.1 c1.2 k
theorem bX0_judgeFrame {d : Nat} {h : jH} {Q : jO → jH → Prop} {a0 : Nat} (k : jOK h → hK h a0 = 1 ∧ hK h (hR h 1 a0) = 6 ∧ jCall d mX7_count [jR (hR h 1 a0)] h (fun o h4 => ∃ v4, o = .inl (some (jI v4)) ∧ j32 (v4 - 2) ∧ (((v4 - 2) < 1 → hK h4 a0 = 1 ∧ hK h4 (hR h4 2 a0) = 6 ∧ jCall d mX7_at [jR (hR h4 2 a0), jI (v4 - 2)] h4 (fun o h42 => ∃ v42, o = .inl (some (jI v42)) ∧ hK h42 a0 = 1 ∧ jCall d mX0_noteFault [jR a0, jI 14, jI v42] h42 (fun o h45 => o = .inl none ∧ Q (.inl none) h45))) ∧ (¬ ((v4 - 2) < 1) → hK h4 a0 = 1 ∧ hK h4 (hR h4 1 a0) = 6 ∧ jCall d mX7_at [jR (hR h4 1 a0), jI (v4 - 2)] h4 (fun o h20 => ∃ v20, o = .inl (some (jI v20)) ∧ hK h20 a0 = 1 ∧ jCall d mX2_checkCharacter [jR (hR h20 1 a0), jI (v4 - 2)] h20 (fun o h28 => ∃ v28, o = .inl (some (jI v28)) ∧ ((v20 = v28 → (((v4 - 2) = 1 → hK h28 a0 = 1 ∧ hK h28 (hR h28 2 a0) = 6 ∧ jCall d mX7_at [jR (hR h28 2 a0), jI 1] h28 (fun o h77 => ∃ v77, o = .inl (some (jI v77)) ∧ hK h77 a0 = 1 ∧ jCall d mX0_noteFault [jR a0, jI 15, jI v77] h77 (fun o h80 => o = .inl none ∧ Q (.inl none) h80))) ∧ (¬ ((v4 - 2) = 1) → hK h28 a0 = 1 ∧ hK h28 (hR h28 1 a0) = 6 ∧ jCall d mX7_at [jR (hR h28 1 a0), jI 1] h28 (fun o h61 => ∃ v61, o = .inl (some (jI v61)) ∧ ((v61 = 102 → Q (.inl none) h61) ∧ (¬ (v61 = 102) → hK h61 a0 = 1 ∧ hK h61 (hR h61 2 a0) = 6 ∧ jCall d mX7_at [jR (hR h61 2 a0), jI 1] h61 (fun o h77_1 => ∃ v77_1, o = .inl (some (jI v77_1)) ∧ hK h77_1 a0 = 1 ∧ jCall d mX0_noteFault [jR a0, jI 15, jI v77_1] h77_1 (fun o h80_1 => o = .inl none ∧ Q (.inl none) h80_1)))))))) ∧ (¬ (v20 = v28) → hK h28 a0 = 1 ∧ hK h28 (hR h28 2 a0) = 6 ∧ jCall d mX7_at [jR (hR h28 2 a0), jI (v4 - 2)] h28 (fun o h42_1 => ∃ v42_1, o = .inl (some (jI v42_1)) ∧ hK h42_1 a0 = 1 ∧ jCall d mX0_noteFault [jR a0, jI 14, jI v42_1] h42_1 (fun o h45_1 => o = .inl none ∧ Q (.inl none) h45_1)))))))))) : jCall (d + 1) mX0_judgeFrame [jR a0] h Q := by
  refine jCall_of plX0 (Nat.le_of_ble_eq_true rfl) ?_
  show jWp (d + 1) mX0_judgeFrame 0 [(0, jR a0)] [] h Q
  refine jw_ok (fun ok q => ?_)
  replace k := k ok 
  refine wp_aload_n 0 dX0_judgeFrame_0 rfl ?_
  have c1 := k.1
  replace k := k.2
  refine wp_getR (ci := 0) (j := 1) rfl (by decide) gX0_20 dX0_judgeFrame_1 c1 rfl ?_
  have c2 := k.1
  replace k := k.2
  refine wp_callV (ci := 5) (y' := mX7_count) (st := []) [] rfl rfl rfl fX7_count kX0_37 nX7_count dX0_judgeFrame_4 (Nat.le_of_ble_eq_true rfl) c2 ?_
  refine jCall.mono k (fun o h4 k => ?_)
  obtain ⟨v4, e, k⟩ := k
  subst e
  show jWp (d + 1) mX0_judgeFrame 7 [(0, jR a0)] [jI v4] h4 Q
  refine wp_iconst dX0_judgeFrame_7 ⟨by decide, by decide⟩ ?_
  have c3 := k.1
  replace k := k.2
  refine wp_isub dX0_judgeFrame_8 c3 ?_
  refine wp_istore_n [1, 0] (ls' := [(0, jR a0), (1, jI (v4 - 2))]) dX0_judgeFrame_9 (by decide) rfl ?_
  refine wp_iload_n 1 dX0_judgeFrame_10 rfl ?_
  refine wp_iconst dX0_judgeFrame_11 ⟨by decide, by decide⟩ ?_
  refine wp_icmp_lt 34 dX0_judgeFrame_12 rfl (fun q => ?_) (fun q => ?_)
  · replace k := k.1 q
    refine wp_aload_n 0 dX0_judgeFrame_34 rfl ?_
    refine wp_bipush dX0_judgeFrame_35 ⟨by decide, by decide⟩ ?_
    refine wp_aload_n 0 dX0_judgeFrame_37 rfl ?_
    have c4 := k.1
    replace k := k.2
    refine wp_getR (ci := 0) (j := 2) rfl (by decide) gX0_24 dX0_judgeFrame_38 c4 rfl ?_
    refine wp_iload_n 1 dX0_judgeFrame_41 rfl ?_
    have c5 := k.1
    replace k := k.2
    refine wp_callV (ci := 5) (y' := mX7_at) (st := [jI 14, jR a0]) [jI (v4 - 2)] rfl rfl rfl fX7_at kX0_68 nX7_at dX0_judgeFrame_42 (Nat.le_of_ble_eq_true rfl) c5 ?_
    refine jCall.mono k (fun o h42 k => ?_)
    obtain ⟨v42, e, k⟩ := k
    subst e
    show jWp (d + 1) mX0_judgeFrame 45 [(0, jR a0), (1, jI (v4 - 2))] [jI v42, jI 14, jR a0] h42 Q
    have c6 := k.1
    replace k := k.2
    refine wp_callV (ci := 0) (y' := mX0_noteFault) (st := []) [jI 14, jI v42] rfl rfl rfl fX0_noteFault kX0_48 nX0_noteFault dX0_judgeFrame_45 (Nat.le_of_ble_eq_true rfl) c6 ?_
    refine jCall.mono k (fun o h45 k => ?_)
    obtain ⟨e, k⟩ := k
    subst e
    show jWp (d + 1) mX0_judgeFrame 48 [(0, jR a0), (1, jI (v4 - 2))] [] h45 Q
    refine wp_goto 83 dX0_judgeFrame_48 rfl ?_
    exact wp_return dX0_judgeFrame_83 rfl k
  · replace k := k.2 q
    refine wp_aload_n 0 dX0_judgeFrame_15 rfl ?_
    have c7 := k.1
    replace k := k.2
    refine wp_getR (ci := 0) (j := 1) rfl (by decide) gX0_20 dX0_judgeFrame_16 c7 rfl ?_
    refine wp_iload_n 1 dX0_judgeFrame_19 rfl ?_
    have c8 := k.1
    replace k := k.2
    refine wp_callV (ci := 5) (y' := mX7_at) (st := []) [jI (v4 - 2)] rfl rfl rfl fX7_at kX0_68 nX7_at dX0_judgeFrame_20 (Nat.le_of_ble_eq_true rfl) c8 ?_
    refine jCall.mono k (fun o h20 k => ?_)
    obtain ⟨v20, e, k⟩ := k
    subst e
    show jWp (d + 1) mX0_judgeFrame 23 [(0, jR a0), (1, jI (v4 - 2))] [jI v20] h20 Q
    refine wp_aload_n 0 dX0_judgeFrame_23 rfl ?_
    have c9 := k.1
    replace k := k.2
    refine wp_getR (ci := 0) (j := 1) rfl (by decide) gX0_20 dX0_judgeFrame_24 c9 rfl ?_
    refine wp_iload_n 1 dX0_judgeFrame_27 rfl ?_
    refine wp_callS (y' := mX2_checkCharacter) (st := [jI v20]) [jR (hR h20 1 a0), jI (v4 - 2)] rfl fX2_checkCharacter kX0_107 nX2_checkCharacter dX0_judgeFrame_28 (Nat.le_of_ble_eq_true rfl) ?_
    refine jCall.mono k (fun o h28 k => ?_)
    obtain ⟨v28, e, k⟩ := k
    subst e
    show jWp (d + 1) mX0_judgeFrame 31 [(0, jR a0), (1, jI (v4 - 2))] [jI v28, jI v20] h28 Q
    refine wp_icmp_eq 51 dX0_judgeFrame_31 rfl (fun q => ?_) (fun q => ?_)
    · replace k := k.1 q
      refine wp_iload_n 1 dX0_judgeFrame_51 rfl ?_
      refine wp_iconst dX0_judgeFrame_52 ⟨by decide, by decide⟩ ?_
      refine wp_icmp_eq 69 dX0_judgeFrame_53 rfl (fun q => ?_) (fun q => ?_)
      · replace k := k.1 q
        refine wp_aload_n 0 dX0_judgeFrame_69 rfl ?_
        refine wp_bipush dX0_judgeFrame_70 ⟨by decide, by decide⟩ ?_
        refine wp_aload_n 0 dX0_judgeFrame_72 rfl ?_
        have c10 := k.1
        replace k := k.2
        refine wp_getR (ci := 0) (j := 2) rfl (by decide) gX0_24 dX0_judgeFrame_73 c10 rfl ?_
        refine wp_iconst dX0_judgeFrame_76 ⟨by decide, by decide⟩ ?_
        have c11 := k.1
        replace k := k.2
        refine wp_callV (ci := 5) (y' := mX7_at) (st := [jI 15, jR a0]) [jI 1] rfl rfl rfl fX7_at kX0_68 nX7_at dX0_judgeFrame_77 (Nat.le_of_ble_eq_true rfl) c11 ?_
        refine jCall.mono k (fun o h77 k => ?_)
        obtain ⟨v77, e, k⟩ := k
        subst e
        show jWp (d + 1) mX0_judgeFrame 80 [(0, jR a0), (1, jI (v4 - 2))] [jI v77, jI 15, jR a0] h77 Q
        have c12 := k.1
        replace k := k.2
        refine wp_callV (ci := 0) (y' := mX0_noteFault) (st := []) [jI 15, jI v77] rfl rfl rfl fX0_noteFault kX0_48 nX0_noteFault dX0_judgeFrame_80 (Nat.le_of_ble_eq_true rfl) c12 ?_
        refine jCall.mono k (fun o h80 k => ?_)
        obtain ⟨e, k⟩ := k
        subst e
        show jWp (d + 1) mX0_judgeFrame 83 [(0, jR a0), (1, jI (v4 - 2))] [] h80 Q
        exact wp_return dX0_judgeFrame_83 rfl k
      · replace k := k.2 q
        refine wp_aload_n 0 dX0_judgeFrame_56 rfl ?_
        have c13 := k.1
        replace k := k.2
        refine wp_getR (ci := 0) (j := 1) rfl (by decide) gX0_20 dX0_judgeFrame_57 c13 rfl ?_
        refine wp_iconst dX0_judgeFrame_60 ⟨by decide, by decide⟩ ?_
        have c14 := k.1
        replace k := k.2
        refine wp_callV (ci := 5) (y' := mX7_at) (st := []) [jI 1] rfl rfl rfl fX7_at kX0_68 nX7_at dX0_judgeFrame_61 (Nat.le_of_ble_eq_true rfl) c14 ?_
        refine jCall.mono k (fun o h61 k => ?_)
        obtain ⟨v61, e, k⟩ := k
        subst e
        show jWp (d + 1) mX0_judgeFrame 64 [(0, jR a0), (1, jI (v4 - 2))] [jI v61] h61 Q
        refine wp_bipush dX0_judgeFrame_64 ⟨by decide, by decide⟩ ?_
        refine wp_icmp_eq 83 dX0_judgeFrame_66 rfl (fun q => ?_) (fun q => ?_)
        · replace k := k.1 q
          exact wp_return dX0_judgeFrame_83 rfl k
        · replace k := k.2 q
          refine wp_aload_n 0 dX0_judgeFrame_69 rfl ?_
          refine wp_bipush dX0_judgeFrame_70 ⟨by decide, by decide⟩ ?_
          refine wp_aload_n 0 dX0_judgeFrame_72 rfl ?_
          have c15 := k.1
          replace k := k.2
          refine wp_getR (ci := 0) (j := 2) rfl (by decide) gX0_24 dX0_judgeFrame_73 c15 rfl ?_
          refine wp_iconst dX0_judgeFrame_76 ⟨by decide, by decide⟩ ?_
          have c16 := k.1
          replace k := k.2
          refine wp_callV (ci := 5) (y' := mX7_at) (st := [jI 15, jR a0]) [jI 1] rfl rfl rfl fX7_at kX0_68 nX7_at dX0_judgeFrame_77 (Nat.le_of_ble_eq_true rfl) c16 ?_
          refine jCall.mono k (fun o h77_1 k => ?_)
          obtain ⟨v77_1, e, k⟩ := k
          subst e
          show jWp (d + 1) mX0_judgeFrame 80 [(0, jR a0), (1, jI (v4 - 2))] [jI v77_1, jI 15, jR a0] h77_1 Q
          have c17 := k.1
          replace k := k.2
          refine wp_callV (ci := 0) (y' := mX0_noteFault) (st := []) [jI 15, jI v77_1] rfl rfl rfl fX0_noteFault kX0_48 nX0_noteFault dX0_judgeFrame_80 (Nat.le_of_ble_eq_true rfl) c17 ?_
          refine jCall.mono k (fun o h80_1 k => ?_)
          obtain ⟨e, k⟩ := k
          subst e
          show jWp (d + 1) mX0_judgeFrame 83 [(0, jR a0), (1, jI (v4 - 2))] [] h80_1 Q
          exact wp_return dX0_judgeFrame_83 rfl k
    · replace k := k.2 q
      refine wp_aload_n 0 dX0_judgeFrame_34 rfl ?_
      refine wp_bipush dX0_judgeFrame_35 ⟨by decide, by decide⟩ ?_
      refine wp_aload_n 0 dX0_judgeFrame_37 rfl ?_
      have c18 := k.1
      replace k := k.2
      refine wp_getR (ci := 0) (j := 2) rfl (by decide) gX0_24 dX0_judgeFrame_38 c18 rfl ?_
      refine wp_iload_n 1 dX0_judgeFrame_41 rfl ?_
      have c19 := k.1
      replace k := k.2
      refine wp_callV (ci := 5) (y' := mX7_at) (st := [jI 14, jR a0]) [jI (v4 - 2)] rfl rfl rfl fX7_at kX0_68 nX7_at dX0_judgeFrame_42 (Nat.le_of_ble_eq_true rfl) c19 ?_
      refine jCall.mono k (fun o h42_1 k => ?_)
      obtain ⟨v42_1, e, k⟩ := k
      subst e
      show jWp (d + 1) mX0_judgeFrame 45 [(0, jR a0), (1, jI (v4 - 2))] [jI v42_1, jI 14, jR a0] h42_1 Q
      have c20 := k.1
      replace k := k.2
      refine wp_callV (ci := 0) (y' := mX0_noteFault) (st := []) [jI 14, jI v42_1] rfl rfl rfl fX0_noteFault kX0_48 nX0_noteFault dX0_judgeFrame_45 (Nat.le_of_ble_eq_true rfl) c20 ?_
      refine jCall.mono k (fun o h45_1 k => ?_)
      obtain ⟨e, k⟩ := k
      subst e
      show jWp (d + 1) mX0_judgeFrame 48 [(0, jR a0), (1, jI (v4 - 2))] [] h45_1 Q
      refine wp_goto 83 dX0_judgeFrame_48 rfl ?_
      exact wp_return dX0_judgeFrame_83 rfl k
theorem bX0_tell {d : Nat} {h : jH} {Q : jO → jH → Prop} {a0 : Nat} {a1 : Nat} (k : jOK h → hK h a1 = 6 ∧ jCall d mX7_clear [jR a1] h (fun o h1 => o = .inl none ∧ hK h1 a0 = 1 ∧ hK h1 (hR h1 1 a0) = 6 ∧ jCall d mX7_at [jR (hR h1 1 a0), jI 0] h1 (fun o h9 => ∃ v9, o = .inl (some (jI v9)) ∧ hK h9 a0 = 1 ∧ hK h9 (hR h9 1 a0) = 6 ∧ jCall d mX7_count [jR (hR h9 1 a0)] h9 (fun o h17 => ∃ v17, o = .inl (some (jI v17)) ∧ j32 (v17 - 2) ∧ jWp (d + 1) mX0_tell 26 [(0, jR a0), (1, jR a1), (2, jI v9), (3, jI (v17 - 2)), (4, jI 2)] [] h17 Q)))) : jCall (d + 1) mX0_tell [jR a0, jR a1] h Q := by
  refine jCall_of plX0 (Nat.le_of_ble_eq_true rfl) ?_
  show jWp (d + 1) mX0_tell 0 [(0, jR a0), (1, jR a1)] [] h Q
  refine jw_ok (fun ok q => ?_)
  replace k := k ok 
  refine wp_aload_n 1 dX0_tell_0 rfl ?_
  have c1 := k.1
  replace k := k.2
  refine wp_callV (ci := 5) (y' := mX7_clear) (st := []) [] rfl rfl rfl fX7_clear kX0_45 nX7_clear dX0_tell_1 (Nat.le_of_ble_eq_true rfl) c1 ?_
  refine jCall.mono k (fun o h1 k => ?_)
  obtain ⟨e, k⟩ := k
  subst e
  show jWp (d + 1) mX0_tell 4 [(0, jR a0), (1, jR a1)] [] h1 Q
  refine wp_aload_n 0 dX0_tell_4 rfl ?_
  have c2 := k.1
  replace k := k.2
  refine wp_getR (ci := 0) (j := 1) rfl (by decide) gX0_20 dX0_tell_5 c2 rfl ?_
  refine wp_iconst dX0_tell_8 ⟨by decide, by decide⟩ ?_
  have c3 := k.1
  replace k := k.2
  refine wp_callV (ci := 5) (y' := mX7_at) (st := []) [jI 0] rfl rfl rfl fX7_at kX0_68 nX7_at dX0_tell_9 (Nat.le_of_ble_eq_true rfl) c3 ?_
  refine jCall.mono k (fun o h9 k => ?_)
  obtain ⟨v9, e, k⟩ := k
  subst e
  show jWp (d + 1) mX0_tell 12 [(0, jR a0), (1, jR a1)] [jI v9] h9 Q
  refine wp_istore_n [1, 2, 0] (ls' := [(0, jR a0), (1, jR a1), (2, jI v9)]) dX0_tell_12 (by decide) rfl ?_
  refine wp_aload_n 0 dX0_tell_13 rfl ?_
  have c4 := k.1
  replace k := k.2
  refine wp_getR (ci := 0) (j := 1) rfl (by decide) gX0_20 dX0_tell_14 c4 rfl ?_
  have c5 := k.1
  replace k := k.2
  refine wp_callV (ci := 5) (y' := mX7_count) (st := []) [] rfl rfl rfl fX7_count kX0_37 nX7_count dX0_tell_17 (Nat.le_of_ble_eq_true rfl) c5 ?_
  refine jCall.mono k (fun o h17 k => ?_)
  obtain ⟨v17, e, k⟩ := k
  subst e
  show jWp (d + 1) mX0_tell 20 [(0, jR a0), (1, jR a1), (2, jI v9)] [jI v17] h17 Q
  refine wp_iconst dX0_tell_20 ⟨by decide, by decide⟩ ?_
  have c6 := k.1
  replace k := k.2
  refine wp_isub dX0_tell_21 c6 ?_
  refine wp_istore_n [1, 2, 3, 0] (ls' := [(0, jR a0), (1, jR a1), (2, jI v9), (3, jI (v17 - 2))]) dX0_tell_22 (by decide) rfl ?_
  refine wp_iconst dX0_tell_23 ⟨by decide, by decide⟩ ?_
  refine wp_istore [1, 2, 3, 4, 0] (ls' := [(0, jR a0), (1, jR a1), (2, jI v9), (3, jI (v17 - 2)), (4, jI 2)]) dX0_tell_24 (by decide) rfl ?_
  exact k
theorem bX0_tell_26 {d : Nat} {h : jH} {Q : jO → jH → Prop} {a0 : Nat} {a1 : Nat} {a2 : Int} {a3 : Int} {a4 : Int} (k : jOK h → j32 a2 → j32 a3 → j32 a4 → ((a3 ≤ a4 → Q (.inl none) h) ∧ (¬ (a3 ≤ a4) → hK h a0 = 1 ∧ hK h (hR h 1 a0) = 6 ∧ jCall d mX7_at [jR (hR h 1 a0), jI a4] h (fun o h38 => ∃ v38, o = .inl (some (jI v38)) ∧ jCall d mX0_byteIn [jI a2, jI v38] h38 (fun o h46 => ∃ v46, o = .inl (some (jI v46)) ∧ j32 (a4 + 1) ∧ ((a3 ≤ (a4 + 1) → ((v38 ≠ 98 → jWp (d + 1) mX0_tell 96 [(0, jR a0), (1, jR a1), (2, jI a2), (3, jI a3), (4, jI a4), (5, jI v38), (6, jI v46)] [jI (-1)] h46 Q) ∧ (v38 = 98 → jCall d mX0_otherSet [jI a2] h46 (fun o h84 => ∃ v84, o = .inl (some (jI v84)) ∧ jCall d mX0_byteIn [jI v84, jI (-1)] h84 (fun o h89 => ∃ v89, o = .inl (some (jI v89)) ∧ jWp (d + 1) mX0_tell 96 [(0, jR a0), (1, jR a1), (2, jI a2), (3, jI a3), (4, jI a4), (5, jI v38), (6, jI v46)] [jI v89] h89 Q))))) ∧ (¬ (a3 ≤ (a4 + 1)) → hK h46 a0 = 1 ∧ hK h46 (hR h46 1 a0) = 6 ∧ jCall d mX7_at [jR (hR h46 1 a0), jI (a4 + 1)] h46 (fun o h67 => ∃ v67, o = .inl (some (jI v67)) ∧ ((v38 ≠ 98 → jWp (d + 1) mX0_tell 96 [(0, jR a0), (1, jR a1), (2, jI a2), (3, jI a3), (4, jI a4), (5, jI v38), (6, jI v46)] [jI (-1)] h67 Q) ∧ (v38 = 98 → jCall d mX0_otherSet [jI a2] h67 (fun o h84_1 => ∃ v84_1, o = .inl (some (jI v84_1)) ∧ jCall d mX0_byteIn [jI v84_1, jI v67] h84_1 (fun o h89_1 => ∃ v89_1, o = .inl (some (jI v89_1)) ∧ jWp (d + 1) mX0_tell 96 [(0, jR a0), (1, jR a1), (2, jI a2), (3, jI a3), (4, jI a4), (5, jI v38), (6, jI v46)] [jI v89_1] h89_1 Q)))))))))))) : jWp (d + 1) mX0_tell 26 [(0, jR a0), (1, jR a1), (2, jI a2), (3, jI a3), (4, jI a4)] [] h Q := by
  refine jw_ok (fun ok q => ?_)
  replace k := k ok (q _ (.tail _ (.tail _ (.head _)))) (q _ (.tail _ (.tail _ (.tail _ (.head _))))) (q _ (.tail _ (.tail _ (.tail _ (.tail _ (.head _))))))
  refine wp_iload 4 dX0_tell_26 rfl ?_
  refine wp_iload_n 3 dX0_tell_28 rfl ?_
  refine wp_icmp_ge 229 dX0_tell_29 rfl (fun q => ?_) (fun q => ?_)
  · replace k := k.1 q
    exact wp_return dX0_tell_229 rfl k
  · replace k := k.2 q
    refine wp_aload_n 0 dX0_tell_32 rfl ?_
    have c1 := k.1
    replace k := k.2
    refine wp_getR (ci := 0) (j := 1) rfl (by decide) gX0_20 dX0_tell_33 c1 rfl ?_
    refine wp_iload 4 dX0_tell_36 rfl ?_
    have c2 := k.1
    replace k := k.2
    refine wp_callV (ci := 5) (y' := mX7_at) (st := []) [jI a4] rfl rfl rfl fX7_at kX0_68 nX7_at dX0_tell_38 (Nat.le_of_ble_eq_true rfl) c2 ?_
    refine jCall.mono k (fun o h38 k => ?_)
    obtain ⟨v38, e, k⟩ := k
    subst e
    show jWp (d + 1) mX0_tell 41 [(0, jR a0), (1, jR a1), (2, jI a2), (3, jI a3), (4, jI a4)] [jI v38] h38 Q
    refine wp_istore [1, 2, 3, 4, 5, 0] (ls' := [(0, jR a0), (1, jR a1), (2, jI a2), (3, jI a3), (4, jI a4), (5, jI v38)]) dX0_tell_41 (by decide) rfl ?_
    refine wp_iload_n 2 dX0_tell_43 rfl ?_
    refine wp_iload 5 dX0_tell_44 rfl ?_
    refine wp_callS (y' := mX0_byteIn) (st := []) [jI a2, jI v38] rfl fX0_byteIn kX0_111 nX0_byteIn dX0_tell_46 (Nat.le_of_ble_eq_true rfl) ?_
    refine jCall.mono k (fun o h46 k => ?_)
    obtain ⟨v46, e, k⟩ := k
    subst e
    show jWp (d + 1) mX0_tell 49 [(0, jR a0), (1, jR a1), (2, jI a2), (3, jI a3), (4, jI a4), (5, jI v38)] [jI v46] h46 Q
    refine wp_istore [1, 2, 3, 4, 5, 6, 0] (ls' := [(0, jR a0), (1, jR a1), (2, jI a2), (3, jI a3), (4, jI a4), (5, jI v38), (6, jI v46)]) dX0_tell_49 (by decide) rfl ?_
    refine wp_iload 4 dX0_tell_51 rfl ?_
    refine wp_iconst dX0_tell_53 ⟨by decide, by decide⟩ ?_
    have c3 := k.1
    replace k := k.2
    refine wp_iadd dX0_tell_54 c3 ?_
    refine wp_iload_n 3 dX0_tell_55 rfl ?_
    refine wp_icmp_ge 73 dX0_tell_56 rfl (fun q => ?_) (fun q => ?_)
    · replace k := k.1 q
      refine wp_iconst dX0_tell_73 ⟨by decide, by decide⟩ ?_
      refine wp_istore [1, 2, 3, 4, 5, 6, 7, 0] (ls' := [(0, jR a0), (1, jR a1), (2, jI a2), (3, jI a3), (4, jI a4), (5, jI v38), (6, jI v46), (7, jI (-1))]) dX0_tell_74 (by decide) rfl ?_
      refine wp_iload 5 dX0_tell_76 rfl ?_
      refine wp_bipush dX0_tell_78 ⟨by decide, by decide⟩ ?_
      refine wp_icmp_ne 95 dX0_tell_80 rfl (fun q => ?_) (fun q => ?_)
      · replace k := k.1 q
        refine wp_iconst dX0_tell_95 ⟨by decide, by decide⟩ ?_
        refine wp_sub [0, 1, 2, 3, 4, 5, 6] (ls' := [(0, jR a0), (1, jR a1), (2, jI a2), (3, jI a3), (4, jI a4), (5, jI v38), (6, jI v46)]) rfl ?_
        exact k
      · replace k := k.2 q
        refine wp_iload_n 2 dX0_tell_83 rfl ?_
        refine wp_callS (y' := mX0_otherSet) (st := []) [jI a2] rfl fX0_otherSet kX0_114 nX0_otherSet dX0_tell_84 (Nat.le_of_ble_eq_true rfl) ?_
        refine jCall.mono k (fun o h84 k => ?_)
        obtain ⟨v84, e, k⟩ := k
        subst e
        show jWp (d + 1) mX0_tell 87 [(0, jR a0), (1, jR a1), (2, jI a2), (3, jI a3), (4, jI a4), (5, jI v38), (6, jI v46), (7, jI (-1))] [jI v84] h84 Q
        refine wp_iload 7 dX0_tell_87 rfl ?_
        refine wp_callS (y' := mX0_byteIn) (st := []) [jI v84, jI (-1)] rfl fX0_byteIn kX0_111 nX0_byteIn dX0_tell_89 (Nat.le_of_ble_eq_true rfl) ?_
        refine jCall.mono k (fun o h89 k => ?_)
        obtain ⟨v89, e, k⟩ := k
        subst e
        show jWp (d + 1) mX0_tell 92 [(0, jR a0), (1, jR a1), (2, jI a2), (3, jI a3), (4, jI a4), (5, jI v38), (6, jI v46), (7, jI (-1))] [jI v89] h89 Q
        refine wp_goto 96 dX0_tell_92 rfl ?_
        refine wp_sub [0, 1, 2, 3, 4, 5, 6] (ls' := [(0, jR a0), (1, jR a1), (2, jI a2), (3, jI a3), (4, jI a4), (5, jI v38), (6, jI v46)]) rfl ?_
        exact k
    · replace k := k.2 q
      refine wp_aload_n 0 dX0_tell_59 rfl ?_
      have c4 := k.1
      replace k := k.2
      refine wp_getR (ci := 0) (j := 1) rfl (by decide) gX0_20 dX0_tell_60 c4 rfl ?_
      refine wp_iload 4 dX0_tell_63 rfl ?_
      refine wp_iconst dX0_tell_65 ⟨by decide, by decide⟩ ?_
      refine wp_iadd dX0_tell_66 c3 ?_
      have c5 := k.1
      replace k := k.2
      refine wp_callV (ci := 5) (y' := mX7_at) (st := []) [jI (a4 + 1)] rfl rfl rfl fX7_at kX0_68 nX7_at dX0_tell_67 (Nat.le_of_ble_eq_true rfl) c5 ?_
      refine jCall.mono k (fun o h67 k => ?_)
      obtain ⟨v67, e, k⟩ := k
      subst e
      show jWp (d + 1) mX0_tell 70 [(0, jR a0), (1, jR a1), (2, jI a2), (3, jI a3), (4, jI a4), (5, jI v38), (6, jI v46)] [jI v67] h67 Q
      refine wp_goto 74 dX0_tell_70 rfl ?_
      refine wp_istore [1, 2, 3, 4, 5, 6, 7, 0] (ls' := [(0, jR a0), (1, jR a1), (2, jI a2), (3, jI a3), (4, jI a4), (5, jI v38), (6, jI v46), (7, jI v67)]) dX0_tell_74 (by decide) rfl ?_
      refine wp_iload 5 dX0_tell_76 rfl ?_
      refine wp_bipush dX0_tell_78 ⟨by decide, by decide⟩ ?_
      refine wp_icmp_ne 95 dX0_tell_80 rfl (fun q => ?_) (fun q => ?_)
      · replace k := k.1 q
        refine wp_iconst dX0_tell_95 ⟨by decide, by decide⟩ ?_
        refine wp_sub [0, 1, 2, 3, 4, 5, 6] (ls' := [(0, jR a0), (1, jR a1), (2, jI a2), (3, jI a3), (4, jI a4), (5, jI v38), (6, jI v46)]) rfl ?_
        exact k
      · replace k := k.2 q
        refine wp_iload_n 2 dX0_tell_83 rfl ?_
        refine wp_callS (y' := mX0_otherSet) (st := []) [jI a2] rfl fX0_otherSet kX0_114 nX0_otherSet dX0_tell_84 (Nat.le_of_ble_eq_true rfl) ?_
        refine jCall.mono k (fun o h84_1 k => ?_)
        obtain ⟨v84_1, e, k⟩ := k
        subst e
        show jWp (d + 1) mX0_tell 87 [(0, jR a0), (1, jR a1), (2, jI a2), (3, jI a3), (4, jI a4), (5, jI v38), (6, jI v46), (7, jI v67)] [jI v84_1] h84_1 Q
        refine wp_iload 7 dX0_tell_87 rfl ?_
        refine wp_callS (y' := mX0_byteIn) (st := []) [jI v84_1, jI v67] rfl fX0_byteIn kX0_111 nX0_byteIn dX0_tell_89 (Nat.le_of_ble_eq_true rfl) ?_
        refine jCall.mono k (fun o h89_1 k => ?_)
        obtain ⟨v89_1, e, k⟩ := k
        subst e
        show jWp (d + 1) mX0_tell 92 [(0, jR a0), (1, jR a1), (2, jI a2), (3, jI a3), (4, jI a4), (5, jI v38), (6, jI v46), (7, jI v67)] [jI v89_1] h89_1 Q
        refine wp_goto 96 dX0_tell_92 rfl ?_
        refine wp_sub [0, 1, 2, 3, 4, 5, 6] (ls' := [(0, jR a0), (1, jR a1), (2, jI a2), (3, jI a3), (4, jI a4), (5, jI v38), (6, jI v46)]) rfl ?_
        exact k
theorem bX0_tell_96 {d : Nat} {h : jH} {Q : jO → jH → Prop} {a0 : Nat} {a1 : Nat} {a2 : Int} {a3 : Int} {a4 : Int} {a5 : Int} {a6 : Int} {s0 : Int} (k : jOK h → j32 a2 → j32 a3 → j32 a4 → j32 a5 → j32 a6 → jCall d mX0_changedSet [jI a2, jI a5] h (fun o h101 => ∃ v101, o = .inl (some (jI v101)) ∧ ((a5 ≠ 102 → ((a2 ≠ 105 → jWp (d + 1) mX0_tell 162 [(0, jR a0), (1, jR a1), (2, jI a2), (3, jI a3), (4, jI a4), (6, jI a6), (8, jI s0), (9, jI v101)] [] h101 Q) ∧ (a2 = 105 → ((100 ≤ a5 → jWp (d + 1) mX0_tell 162 [(0, jR a0), (1, jR a1), (2, jI a2), (3, jI a3), (4, jI a4), (6, jI a6), (8, jI s0), (9, jI v101)] [] h101 Q) ∧ (¬ (100 ≤ a5) → 0 ≤ a5 ∧ j32 (48 + (a5 / 10)) ∧ hK h101 a1 = 6 ∧ jCall d mX7_put [jR a1, jI (48 + (a5 / 10))] h101 (fun o h144 => o = .inl none ∧ 0 ≤ a5 ∧ j32 (48 + (a5 % 10)) ∧ hK h144 a1 = 6 ∧ jCall d mX7_put [jR a1, jI (48 + (a5 % 10))] h144 (fun o h156 => o = .inl none ∧ jWp (d + 1) mX0_tell 223 [(0, jR a0), (1, jR a1), (2, jI a2), (3, jI a3), (4, jI a4)] [] h156 Q))))))) ∧ (a5 = 102 → hK h101 a1 = 6 ∧ jCall d mX7_put [jR a1, jI 29] h101 (fun o h116 => o = .inl none ∧ jWp (d + 1) mX0_tell 223 [(0, jR a0), (1, jR a1), (2, jI a2), (3, jI a3), (4, jI a4)] [] h116 Q))))) : jWp (d + 1) mX0_tell 96 [(0, jR a0), (1, jR a1), (2, jI a2), (3, jI a3), (4, jI a4), (5, jI a5), (6, jI a6)] [jI s0] h Q := by
  refine jw_ok (fun ok q => ?_)
  replace k := k ok (q _ (.tail _ (.tail _ (.head _)))) (q _ (.tail _ (.tail _ (.tail _ (.head _))))) (q _ (.tail _ (.tail _ (.tail _ (.tail _ (.head _)))))) (q _ (.tail _ (.tail _ (.tail _ (.tail _ (.tail _ (.head _))))))) (q _ (.tail _ (.tail _ (.tail _ (.tail _ (.tail _ (.tail _ (.head _))))))))
  refine wp_istore [1, 2, 3, 4, 5, 6, 7, 0] (ls' := [(0, jR a0), (1, jR a1), (2, jI a2), (3, jI a3), (4, jI a4), (5, jI a5), (6, jI a6), (8, jI s0)]) dX0_tell_96 (by decide) rfl ?_
  refine wp_iload_n 2 dX0_tell_98 rfl ?_
  refine wp_iload 5 dX0_tell_99 rfl ?_
  refine wp_callS (y' := mX0_changedSet) (st := []) [jI a2, jI a5] rfl fX0_changedSet kX0_117 nX0_changedSet dX0_tell_101 (Nat.le_of_ble_eq_true rfl) ?_
  refine jCall.mono k (fun o h101 k => ?_)
  obtain ⟨v101, e, k⟩ := k
  subst e
  show jWp (d + 1) mX0_tell 104 [(0, jR a0), (1, jR a1), (2, jI a2), (3, jI a3), (4, jI a4), (5, jI a5), (6, jI a6), (8, jI s0)] [jI v101] h101 Q
  refine wp_istore [1, 2, 3, 4, 5, 6, 7, 8, 0] (ls' := [(0, jR a0), (1, jR a1), (2, jI a2), (3, jI a3), (4, jI a4), (5, jI a5), (6, jI a6), (8, jI s0), (9, jI v101)]) dX0_tell_104 (by decide) rfl ?_
  refine wp_iload 5 dX0_tell_106 rfl ?_
  refine wp_bipush dX0_tell_108 ⟨by decide, by decide⟩ ?_
  refine wp_icmp_ne 122 dX0_tell_110 rfl (fun q => ?_) (fun q => ?_)
  · replace k := k.1 q
    refine wp_iload_n 2 dX0_tell_122 rfl ?_
    refine wp_bipush dX0_tell_123 ⟨by decide, by decide⟩ ?_
    refine wp_icmp_ne 162 dX0_tell_125 rfl (fun q => ?_) (fun q => ?_)
    · replace k := k.1 q
      refine wp_sub [0, 1, 2, 3, 4, 6, 7, 8] (ls' := [(0, jR a0), (1, jR a1), (2, jI a2), (3, jI a3), (4, jI a4), (6, jI a6), (8, jI s0), (9, jI v101)]) rfl ?_
      exact k
    · replace k := k.2 q
      refine wp_iload 5 dX0_tell_128 rfl ?_
      refine wp_bipush dX0_tell_130 ⟨by decide, by decide⟩ ?_
      refine wp_icmp_ge 162 dX0_tell_132 rfl (fun q => ?_) (fun q => ?_)
      · replace k := k.1 q
        refine wp_sub [0, 1, 2, 3, 4, 6, 7, 8] (ls' := [(0, jR a0), (1, jR a1), (2, jI a2), (3, jI a3), (4, jI a4), (6, jI a6), (8, jI s0), (9, jI v101)]) rfl ?_
        exact k
      · replace k := k.2 q
        refine wp_aload_n 1 dX0_tell_135 rfl ?_
        refine wp_bipush dX0_tell_136 ⟨by decide, by decide⟩ ?_
        refine wp_iload 5 dX0_tell_138 rfl ?_
        refine wp_bipush dX0_tell_140 ⟨by decide, by decide⟩ ?_
        have c1 := k.1
        replace k := k.2
        refine wp_idiv dX0_tell_142 c1 (by decide) ?_
        have c2 := k.1
        replace k := k.2
        refine wp_iadd dX0_tell_143 c2 ?_
        have c3 := k.1
        replace k := k.2
        refine wp_callV (ci := 5) (y' := mX7_put) (st := []) [jI (48 + (a5 / 10))] rfl rfl rfl fX7_put kX0_101 nX7_put dX0_tell_144 (Nat.le_of_ble_eq_true rfl) c3 ?_
        refine jCall.mono k (fun o h144 k => ?_)
        obtain ⟨e, k⟩ := k
        subst e
        show jWp (d + 1) mX0_tell 147 [(0, jR a0), (1, jR a1), (2, jI a2), (3, jI a3), (4, jI a4), (5, jI a5), (6, jI a6), (8, jI s0), (9, jI v101)] [] h144 Q
        refine wp_aload_n 1 dX0_tell_147 rfl ?_
        refine wp_bipush dX0_tell_148 ⟨by decide, by decide⟩ ?_
        refine wp_iload 5 dX0_tell_150 rfl ?_
        refine wp_bipush dX0_tell_152 ⟨by decide, by decide⟩ ?_
        have c4 := k.1
        replace k := k.2
        refine wp_irem dX0_tell_154 c4 (by decide) ?_
        have c5 := k.1
        replace k := k.2
        refine wp_iadd dX0_tell_155 c5 ?_
        have c6 := k.1
        replace k := k.2
        refine wp_callV (ci := 5) (y' := mX7_put) (st := []) [jI (48 + (a5 % 10))] rfl rfl rfl fX7_put kX0_101 nX7_put dX0_tell_156 (Nat.le_of_ble_eq_true rfl) c6 ?_
        refine jCall.mono k (fun o h156 k => ?_)
        obtain ⟨e, k⟩ := k
        subst e
        show jWp (d + 1) mX0_tell 159 [(0, jR a0), (1, jR a1), (2, jI a2), (3, jI a3), (4, jI a4), (5, jI a5), (6, jI a6), (8, jI s0), (9, jI v101)] [] h156 Q
        refine wp_goto 223 dX0_tell_159 rfl ?_
        refine wp_sub [0, 1, 2, 3, 4] (ls' := [(0, jR a0), (1, jR a1), (2, jI a2), (3, jI a3), (4, jI a4)]) rfl ?_
        exact k
  · replace k := k.2 q
    refine wp_aload_n 1 dX0_tell_113 rfl ?_
    refine wp_bipush dX0_tell_114 ⟨by decide, by decide⟩ ?_
    have c7 := k.1
    replace k := k.2
    refine wp_callV (ci := 5) (y' := mX7_put) (st := []) [jI 29] rfl rfl rfl fX7_put kX0_101 nX7_put dX0_tell_116 (Nat.le_of_ble_eq_true rfl) c7 ?_
    refine jCall.mono k (fun o h116 k => ?_)
    obtain ⟨e, k⟩ := k
    subst e
    show jWp (d + 1) mX0_tell 119 [(0, jR a0), (1, jR a1), (2, jI a2), (3, jI a3), (4, jI a4), (5, jI a5), (6, jI a6), (8, jI s0), (9, jI v101)] [] h116 Q
    refine wp_goto 223 dX0_tell_119 rfl ?_
    refine wp_sub [0, 1, 2, 3, 4] (ls' := [(0, jR a0), (1, jR a1), (2, jI a2), (3, jI a3), (4, jI a4)]) rfl ?_
    exact k
theorem bX0_tell_162 {d : Nat} {h : jH} {Q : jO → jH → Prop} {a0 : Nat} {a1 : Nat} {a2 : Int} {a3 : Int} {a4 : Int} {a6 : Int} {a8 : Int} {a9 : Int} (k : jOK h → j32 a2 → j32 a3 → j32 a4 → j32 a6 → j32 a8 → j32 a9 → ((a6 = (-1) → ((a8 = (-1) → ((a9 = (-1) → hK h a0 = 1 ∧ hK h (hR h 2 a0) = 6 ∧ jCall d mX7_at [jR (hR h 2 a0), jI a4] h (fun o h216 => ∃ v216, o = .inl (some (jI v216)) ∧ hK h216 a0 = 1 ∧ jCall d mX0_noteFault [jR a0, jI 16, jI v216] h216 (fun o h219 => o = .inl none ∧ Q (.inl none) h219))) ∧ (¬ (a9 = (-1)) → jWp (d + 1) mX0_tell 223 [(0, jR a0), (1, jR a1), (2, jI a9), (3, jI a3), (4, jI a4)] [] h Q))) ∧ (¬ (a8 = (-1)) → hK h a1 = 6 ∧ jCall d mX7_put [jR a1, jI a8] h (fun o h186 => o = .inl none ∧ j32 (a4 + 1) ∧ jWp (d + 1) mX0_tell 223 [(0, jR a0), (1, jR a1), (2, jI a2), (3, jI a3), (4, jI (a4 + 1))] [] h186 Q)))) ∧ (¬ (a6 = (-1)) → hK h a1 = 6 ∧ jCall d mX7_put [jR a1, jI a6] h (fun o h171 => o = .inl none ∧ jWp (d + 1) mX0_tell 223 [(0, jR a0), (1, jR a1), (2, jI a2), (3, jI a3), (4, jI a4)] [] h171 Q)))) : jWp (d + 1) mX0_tell 162 [(0, jR a0), (1, jR a1), (2, jI a2), (3, jI a3), (4, jI a4), (6, jI a6), (8, jI a8), (9, jI a9)] [] h Q := by
  refine jw_ok (fun ok q => ?_)
  replace k := k ok (q _ (.tail _ (.tail _ (.head _)))) (q _ (.tail _ (.tail _ (.tail _ (.head _))))) (q _ (.tail _ (.tail _ (.tail _ (.tail _ (.head _)))))) (q _ (.tail _ (.tail _ (.tail _ (.tail _ (.tail _ (.head _))))))) (q _ (.tail _ (.tail _ (.tail _ (.tail _ (.tail _ (.tail _ (.head _)))))))) (q _ (.tail _ (.tail _ (.tail _ (.tail _ (.tail _ (.tail _ (.tail _ (.head _)))))))))
  refine wp_iload 5 dX0_tell_162 rfl ?_
  refine wp_iconst dX0_tell_164 ⟨by decide, by decide⟩ ?_
  refine wp_icmp_eq 177 dX0_tell_165 rfl (fun q => ?_) (fun q => ?_)
  · replace k := k.1 q
    refine wp_iload 6 dX0_tell_177 rfl ?_
    refine wp_iconst dX0_tell_179 ⟨by decide, by decide⟩ ?_
    refine wp_icmp_eq 195 dX0_tell_180 rfl (fun q => ?_) (fun q => ?_)
    · replace k := k.1 q
      refine wp_iload 7 dX0_tell_195 rfl ?_
      refine wp_iconst dX0_tell_197 ⟨by decide, by decide⟩ ?_
      refine wp_icmp_eq 207 dX0_tell_198 rfl (fun q => ?_) (fun q => ?_)
      · replace k := k.1 q
        refine wp_aload_n 0 dX0_tell_207 rfl ?_
        refine wp_bipush dX0_tell_208 ⟨by decide, by decide⟩ ?_
        refine wp_aload_n 0 dX0_tell_210 rfl ?_
        have c1 := k.1
        replace k := k.2
        refine wp_getR (ci := 0) (j := 2) rfl (by decide) gX0_24 dX0_tell_211 c1 rfl ?_
        refine wp_iload 4 dX0_tell_214 rfl ?_
        have c2 := k.1
        replace k := k.2
        refine wp_callV (ci := 5) (y' := mX7_at) (st := [jI 16, jR a0]) [jI a4] rfl rfl rfl fX7_at kX0_68 nX7_at dX0_tell_216 (Nat.le_of_ble_eq_true rfl) c2 ?_
        refine jCall.mono k (fun o h216 k => ?_)
        obtain ⟨v216, e, k⟩ := k
        subst e
        show jWp (d + 1) mX0_tell 219 [(0, jR a0), (1, jR a1), (2, jI a2), (3, jI a3), (4, jI a4), (6, jI a6), (8, jI a8), (9, jI a9)] [jI v216, jI 16, jR a0] h216 Q
        have c3 := k.1
        replace k := k.2
        refine wp_callV (ci := 0) (y' := mX0_noteFault) (st := []) [jI 16, jI v216] rfl rfl rfl fX0_noteFault kX0_48 nX0_noteFault dX0_tell_219 (Nat.le_of_ble_eq_true rfl) c3 ?_
        refine jCall.mono k (fun o h219 k => ?_)
        obtain ⟨e, k⟩ := k
        subst e
        show jWp (d + 1) mX0_tell 222 [(0, jR a0), (1, jR a1), (2, jI a2), (3, jI a3), (4, jI a4), (6, jI a6), (8, jI a8), (9, jI a9)] [] h219 Q
        exact wp_return dX0_tell_222 rfl k
      · replace k := k.2 q
        refine wp_iload 7 dX0_tell_201 rfl ?_
        refine wp_istore_n [1, 2, 0, 3, 4] (ls' := [(0, jR a0), (1, jR a1), (2, jI a9), (3, jI a3), (4, jI a4)]) dX0_tell_203 (by decide) rfl ?_
        refine wp_goto 223 dX0_tell_204 rfl ?_
        exact k
    · replace k := k.2 q
      refine wp_aload_n 1 dX0_tell_183 rfl ?_
      refine wp_iload 6 dX0_tell_184 rfl ?_
      have c4 := k.1
      replace k := k.2
      refine wp_callV (ci := 5) (y' := mX7_put) (st := []) [jI a8] rfl rfl rfl fX7_put kX0_101 nX7_put dX0_tell_186 (Nat.le_of_ble_eq_true rfl) c4 ?_
      refine jCall.mono k (fun o h186 k => ?_)
      obtain ⟨e, k⟩ := k
      subst e
      show jWp (d + 1) mX0_tell 189 [(0, jR a0), (1, jR a1), (2, jI a2), (3, jI a3), (4, jI a4), (6, jI a6), (8, jI a8), (9, jI a9)] [] h186 Q
      have c5 := k.1
      replace k := k.2
      refine wp_iinc 4 [1, 2, 3, 4, 0] (ls' := [(0, jR a0), (1, jR a1), (2, jI a2), (3, jI a3), (4, jI (a4 + 1))]) dX0_tell_189 rfl c5 ⟨by decide, by decide⟩ (by decide) rfl ?_
      refine wp_goto 223 dX0_tell_192 rfl ?_
      exact k
  · replace k := k.2 q
    refine wp_aload_n 1 dX0_tell_168 rfl ?_
    refine wp_iload 5 dX0_tell_169 rfl ?_
    have c6 := k.1
    replace k := k.2
    refine wp_callV (ci := 5) (y' := mX7_put) (st := []) [jI a6] rfl rfl rfl fX7_put kX0_101 nX7_put dX0_tell_171 (Nat.le_of_ble_eq_true rfl) c6 ?_
    refine jCall.mono k (fun o h171 k => ?_)
    obtain ⟨e, k⟩ := k
    subst e
    show jWp (d + 1) mX0_tell 174 [(0, jR a0), (1, jR a1), (2, jI a2), (3, jI a3), (4, jI a4), (6, jI a6), (8, jI a8), (9, jI a9)] [] h171 Q
    refine wp_goto 223 dX0_tell_174 rfl ?_
    refine wp_sub [0, 1, 2, 3, 4] (ls' := [(0, jR a0), (1, jR a1), (2, jI a2), (3, jI a3), (4, jI a4)]) rfl ?_
    exact k
theorem bX0_tell_223 {d : Nat} {h : jH} {Q : jO → jH → Prop} {a0 : Nat} {a1 : Nat} {a2 : Int} {a3 : Int} {a4 : Int} (k : jOK h → j32 a2 → j32 a3 → j32 a4 → j32 (a4 + 1) ∧ jWp (d + 1) mX0_tell 26 [(0, jR a0), (1, jR a1), (2, jI a2), (3, jI a3), (4, jI (a4 + 1))] [] h Q) : jWp (d + 1) mX0_tell 223 [(0, jR a0), (1, jR a1), (2, jI a2), (3, jI a3), (4, jI a4)] [] h Q := by
  refine jw_ok (fun ok q => ?_)
  replace k := k ok (q _ (.tail _ (.tail _ (.head _)))) (q _ (.tail _ (.tail _ (.tail _ (.head _))))) (q _ (.tail _ (.tail _ (.tail _ (.tail _ (.head _))))))
  have c1 := k.1
  replace k := k.2
  refine wp_iinc 4 [1, 2, 3, 4, 0] (ls' := [(0, jR a0), (1, jR a1), (2, jI a2), (3, jI a3), (4, jI (a4 + 1))]) dX0_tell_223 rfl c1 ⟨by decide, by decide⟩ (by decide) rfl ?_
  refine wp_goto 26 dX0_tell_226 rfl ?_
  exact k
theorem bX0_byteIn {d : Nat} {h : jH} {Q : jO → jH → Prop} {a0 : Int} {a1 : Int} (k : jOK h → j32 a0 → j32 a1 → ((a0 ≠ 103 → ((a0 ≠ 104 → ((a1 < 0 → Q (.inl (some (jI (-1)))) h) ∧ (¬ (a1 < 0) → ((0 ≤ a1 → Q (.inl (some (jI (-1)))) h) ∧ (¬ (0 ≤ a1) → j32 (a1 + 32) ∧ Q (.inl (some (jI (a1 + 32)))) h))))) ∧ (a0 = 104 → ((a1 < 0 → Q (.inl (some (jI (-1)))) h) ∧ (¬ (a1 < 0) → ((96 ≤ a1 → Q (.inl (some (jI (-1)))) h) ∧ (¬ (96 ≤ a1) → j32 (a1 + 32) ∧ Q (.inl (some (jI (a1 + 32)))) h))))))) ∧ (a0 = 103 → ((a1 < 0 → Q (.inl (some (jI (-1)))) h) ∧ (¬ (a1 < 0) → ((64 ≤ a1 → Q (.inl (some (jI (-1)))) h) ∧ (¬ (64 ≤ a1) → j32 (a1 + 32) ∧ Q (.inl (some (jI (a1 + 32)))) h))))))) : jCall d mX0_byteIn [jI a0, jI a1] h Q := by
  refine jCall_of plX0 (Nat.le_of_ble_eq_true rfl) ?_
  show jWp d mX0_byteIn 0 [(0, jI a0), (1, jI a1)] [] h Q
  refine jw_ok (fun ok q => ?_)
  replace k := k ok (q _ (.head _)) (q _ (.tail _ (.head _)))
  refine wp_iload_n 0 dX0_byteIn_0 rfl ?_
  refine wp_bipush dX0_byteIn_1 ⟨by decide, by decide⟩ ?_
  refine wp_icmp_ne 11 dX0_byteIn_3 rfl (fun q => ?_) (fun q => ?_)
  · replace k := k.1 q
    refine wp_iload_n 0 dX0_byteIn_11 rfl ?_
    refine wp_bipush dX0_byteIn_12 ⟨by decide, by decide⟩ ?_
    refine wp_icmp_ne 22 dX0_byteIn_14 rfl (fun q => ?_) (fun q => ?_)
    · replace k := k.1 q
      refine wp_iconst dX0_byteIn_22 ⟨by decide, by decide⟩ ?_
      refine wp_istore_n [2, 0] (ls' := [(1, jI a1), (2, jI 0)]) dX0_byteIn_23 (by decide) rfl ?_
      refine wp_iload_n 0 dX0_byteIn_24 rfl ?_
      refine wp_if_lt 40 dX0_byteIn_25 rfl (fun q => ?_) (fun q => ?_)
      · replace k := k.1 q
        refine wp_iconst dX0_byteIn_40 ⟨by decide, by decide⟩ ?_
        exact wp_iret dX0_byteIn_41 rfl k
      · replace k := k.2 q
        refine wp_iload_n 0 dX0_byteIn_28 rfl ?_
        refine wp_iload_n 1 dX0_byteIn_29 rfl ?_
        refine wp_icmp_ge 40 dX0_byteIn_30 rfl (fun q => ?_) (fun q => ?_)
        · replace k := k.1 q
          refine wp_iconst dX0_byteIn_40 ⟨by decide, by decide⟩ ?_
          exact wp_iret dX0_byteIn_41 rfl k
        · replace k := k.2 q
          refine wp_iload_n 0 dX0_byteIn_33 rfl ?_
          refine wp_bipush dX0_byteIn_34 ⟨by decide, by decide⟩ ?_
          have c1 := k.1
          replace k := k.2
          refine wp_iadd dX0_byteIn_36 c1 ?_
          refine wp_goto 41 dX0_byteIn_37 rfl ?_
          exact wp_iret dX0_byteIn_41 rfl k
    · replace k := k.2 q
      refine wp_bipush dX0_byteIn_17 ⟨by decide, by decide⟩ ?_
      refine wp_goto 23 dX0_byteIn_19 rfl ?_
      refine wp_istore_n [2, 0] (ls' := [(1, jI a1), (2, jI 96)]) dX0_byteIn_23 (by decide) rfl ?_
      refine wp_iload_n 0 dX0_byteIn_24 rfl ?_
      refine wp_if_lt 40 dX0_byteIn_25 rfl (fun q => ?_) (fun q => ?_)
      · replace k := k.1 q
        refine wp_iconst dX0_byteIn_40 ⟨by decide, by decide⟩ ?_
        exact wp_iret dX0_byteIn_41 rfl k
      · replace k := k.2 q
        refine wp_iload_n 0 dX0_byteIn_28 rfl ?_
        refine wp_iload_n 1 dX0_byteIn_29 rfl ?_
        refine wp_icmp_ge 40 dX0_byteIn_30 rfl (fun q => ?_) (fun q => ?_)
        · replace k := k.1 q
          refine wp_iconst dX0_byteIn_40 ⟨by decide, by decide⟩ ?_
          exact wp_iret dX0_byteIn_41 rfl k
        · replace k := k.2 q
          refine wp_iload_n 0 dX0_byteIn_33 rfl ?_
          refine wp_bipush dX0_byteIn_34 ⟨by decide, by decide⟩ ?_
          have c2 := k.1
          replace k := k.2
          refine wp_iadd dX0_byteIn_36 c2 ?_
          refine wp_goto 41 dX0_byteIn_37 rfl ?_
          exact wp_iret dX0_byteIn_41 rfl k
  · replace k := k.2 q
    refine wp_bipush dX0_byteIn_6 ⟨by decide, by decide⟩ ?_
    refine wp_goto 23 dX0_byteIn_8 rfl ?_
    refine wp_istore_n [2, 0] (ls' := [(1, jI a1), (2, jI 64)]) dX0_byteIn_23 (by decide) rfl ?_
    refine wp_iload_n 0 dX0_byteIn_24 rfl ?_
    refine wp_if_lt 40 dX0_byteIn_25 rfl (fun q => ?_) (fun q => ?_)
    · replace k := k.1 q
      refine wp_iconst dX0_byteIn_40 ⟨by decide, by decide⟩ ?_
      exact wp_iret dX0_byteIn_41 rfl k
    · replace k := k.2 q
      refine wp_iload_n 0 dX0_byteIn_28 rfl ?_
      refine wp_iload_n 1 dX0_byteIn_29 rfl ?_
      refine wp_icmp_ge 40 dX0_byteIn_30 rfl (fun q => ?_) (fun q => ?_)
      · replace k := k.1 q
        refine wp_iconst dX0_byteIn_40 ⟨by decide, by decide⟩ ?_
        exact wp_iret dX0_byteIn_41 rfl k
      · replace k := k.2 q
        refine wp_iload_n 0 dX0_byteIn_33 rfl ?_
        refine wp_bipush dX0_byteIn_34 ⟨by decide, by decide⟩ ?_
        have c3 := k.1
        replace k := k.2
        refine wp_iadd dX0_byteIn_36 c3 ?_
        refine wp_goto 41 dX0_byteIn_37 rfl ?_
        exact wp_iret dX0_byteIn_41 rfl k
theorem bX0_otherSet {d : Nat} {h : jH} {Q : jO → jH → Prop} {a0 : Int} (k : jOK h → j32 a0 → ((a0 ≠ 103 → ((a0 ≠ 104 → Q (.inl (some (jI (-1)))) h) ∧ (a0 = 104 → Q (.inl (some (jI 103))) h))) ∧ (a0 = 103 → Q (.inl (some (jI 104))) h))) : jCall d mX0_otherSet [jI a0] h Q := by
  refine jCall_of plX0 (Nat.le_of_ble_eq_true rfl) ?_
  show jWp d mX0_otherSet 0 [(0, jI a0)] [] h Q
  refine jw_ok (fun ok q => ?_)
  replace k := k ok (q _ (.head _))
  refine wp_iload_n 0 dX0_otherSet_0 rfl ?_
  refine wp_bipush dX0_otherSet_1 ⟨by decide, by decide⟩ ?_
  refine wp_icmp_ne 11 dX0_otherSet_3 rfl (fun q => ?_) (fun q => ?_)
  · replace k := k.1 q
    refine wp_iload_n 0 dX0_otherSet_11 rfl ?_
    refine wp_bipush dX0_otherSet_12 ⟨by decide, by decide⟩ ?_
    refine wp_icmp_ne 22 dX0_otherSet_14 rfl (fun q => ?_) (fun q => ?_)
    · replace k := k.1 q
      refine wp_iconst dX0_otherSet_22 ⟨by decide, by decide⟩ ?_
      exact wp_iret dX0_otherSet_23 rfl k
    · replace k := k.2 q
      refine wp_bipush dX0_otherSet_17 ⟨by decide, by decide⟩ ?_
      refine wp_goto 23 dX0_otherSet_19 rfl ?_
      exact wp_iret dX0_otherSet_23 rfl k
  · replace k := k.2 q
    refine wp_bipush dX0_otherSet_6 ⟨by decide, by decide⟩ ?_
    refine wp_goto 23 dX0_otherSet_8 rfl ?_
    exact wp_iret dX0_otherSet_23 rfl k
theorem bX0_changedSet {d : Nat} {h : jH} {Q : jO → jH → Prop} {a0 : Int} {a1 : Int} (k : jOK h → j32 a0 → j32 a1 → ((a1 ≠ 101 → ((a1 ≠ 100 → ((a1 ≠ 99 → (((-1) ≠ a0 → Q (.inl (some (jI (-1)))) h) ∧ ((-1) = a0 → Q (.inl (some (jI (-1)))) h))) ∧ (a1 = 99 → ((105 ≠ a0 → Q (.inl (some (jI 105))) h) ∧ (105 = a0 → Q (.inl (some (jI (-1)))) h))))) ∧ (a1 = 100 → ((104 ≠ a0 → Q (.inl (some (jI 104))) h) ∧ (104 = a0 → Q (.inl (some (jI (-1)))) h))))) ∧ (a1 = 101 → ((103 ≠ a0 → Q (.inl (some (jI 103))) h) ∧ (103 = a0 → Q (.inl (some (jI (-1)))) h))))) : jCall d mX0_changedSet [jI a0, jI a1] h Q := by
  refine jCall_of plX0 (Nat.le_of_ble_eq_true rfl) ?_
  show jWp d mX0_changedSet 0 [(0, jI a0), (1, jI a1)] [] h Q
  refine jw_ok (fun ok q => ?_)
  replace k := k ok (q _ (.head _)) (q _ (.tail _ (.head _)))
  refine wp_iconst dX0_changedSet_0 ⟨by decide, by decide⟩ ?_
  refine wp_istore_n [1, 2, 0] (ls' := [(0, jI a0), (1, jI a1), (2, jI (-1))]) dX0_changedSet_1 (by decide) rfl ?_
  refine wp_iload_n 1 dX0_changedSet_2 rfl ?_
  refine wp_bipush dX0_changedSet_3 ⟨by decide, by decide⟩ ?_
  refine wp_icmp_ne 14 dX0_changedSet_5 rfl (fun q => ?_) (fun q => ?_)
  · replace k := k.1 q
    refine wp_iload_n 1 dX0_changedSet_14 rfl ?_
    refine wp_bipush dX0_changedSet_15 ⟨by decide, by decide⟩ ?_
    refine wp_icmp_ne 26 dX0_changedSet_17 rfl (fun q => ?_) (fun q => ?_)
    · replace k := k.1 q
      refine wp_iload_n 1 dX0_changedSet_26 rfl ?_
      refine wp_bipush dX0_changedSet_27 ⟨by decide, by decide⟩ ?_
      refine wp_icmp_ne 35 dX0_changedSet_29 rfl (fun q => ?_) (fun q => ?_)
      · replace k := k.1 q
        refine wp_iload_n 2 dX0_changedSet_35 rfl ?_
        refine wp_iload_n 0 dX0_changedSet_36 rfl ?_
        refine wp_icmp_ne 44 dX0_changedSet_37 rfl (fun q => ?_) (fun q => ?_)
        · replace k := k.1 q
          refine wp_iload_n 2 dX0_changedSet_44 rfl ?_
          exact wp_iret dX0_changedSet_45 rfl k
        · replace k := k.2 q
          refine wp_iconst dX0_changedSet_40 ⟨by decide, by decide⟩ ?_
          refine wp_goto 45 dX0_changedSet_41 rfl ?_
          exact wp_iret dX0_changedSet_45 rfl k
      · replace k := k.2 q
        refine wp_bipush dX0_changedSet_32 ⟨by decide, by decide⟩ ?_
        refine wp_istore_n [1, 0] (ls' := [(0, jI a0), (2, jI 105)]) dX0_changedSet_34 (by decide) rfl ?_
        refine wp_iload_n 1 dX0_changedSet_35 rfl ?_
        refine wp_iload_n 0 dX0_changedSet_36 rfl ?_
        refine wp_icmp_ne 44 dX0_changedSet_37 rfl (fun q => ?_) (fun q => ?_)
        · replace k := k.1 q
          refine wp_iload_n 1 dX0_changedSet_44 rfl ?_
          exact wp_iret dX0_changedSet_45 rfl k
        · replace k := k.2 q
          refine wp_iconst dX0_changedSet_40 ⟨by decide, by decide⟩ ?_
          refine wp_goto 45 dX0_changedSet_41 rfl ?_
          exact wp_iret dX0_changedSet_45 rfl k
    · replace k := k.2 q
      refine wp_bipush dX0_changedSet_20 ⟨by decide, by decide⟩ ?_
      refine wp_istore_n [1, 0] (ls' := [(0, jI a0), (2, jI 104)]) dX0_changedSet_22 (by decide) rfl ?_
      refine wp_goto 35 dX0_changedSet_23 rfl ?_
      refine wp_iload_n 1 dX0_changedSet_35 rfl ?_
      refine wp_iload_n 0 dX0_changedSet_36 rfl ?_
      refine wp_icmp_ne 44 dX0_changedSet_37 rfl (fun q => ?_) (fun q => ?_)
      · replace k := k.1 q
        refine wp_iload_n 1 dX0_changedSet_44 rfl ?_
        exact wp_iret dX0_changedSet_45 rfl k
      · replace k := k.2 q
        refine wp_iconst dX0_changedSet_40 ⟨by decide, by decide⟩ ?_
        refine wp_goto 45 dX0_changedSet_41 rfl ?_
        exact wp_iret dX0_changedSet_45 rfl k
  · replace k := k.2 q
    refine wp_bipush dX0_changedSet_8 ⟨by decide, by decide⟩ ?_
    refine wp_istore_n [1, 0] (ls' := [(0, jI a0), (2, jI 103)]) dX0_changedSet_10 (by decide) rfl ?_
    refine wp_goto 35 dX0_changedSet_11 rfl ?_
    refine wp_iload_n 1 dX0_changedSet_35 rfl ?_
    refine wp_iload_n 0 dX0_changedSet_36 rfl ?_
    refine wp_icmp_ne 44 dX0_changedSet_37 rfl (fun q => ?_) (fun q => ?_)
    · replace k := k.1 q
      refine wp_iload_n 1 dX0_changedSet_44 rfl ?_
      exact wp_iret dX0_changedSet_45 rfl k
    · replace k := k.2 q
      refine wp_iconst dX0_changedSet_40 ⟨by decide, by decide⟩ ?_
      refine wp_goto 45 dX0_changedSet_41 rfl ?_
      exact wp_iret dX0_changedSet_45 rfl k
theorem bX1_init {d : Nat} {h : jH} {Q : jO → jH → Prop} {a0 : Nat} (k : jOK h → a0 ≠ 0 ∧ hK (sN h 10 106 106) a0 = 2 ∧ jWp (d + 1) mX1_init 16 [(0, jR a0), (1, jI 0)] [] (sR (sN h 10 106 106) 100 a0 (hS h)) Q) : jCall (d + 1) mX1_init [jR a0] h Q := by
  refine jCall_of plX1 (Nat.le_of_ble_eq_true rfl) ?_
  show jWp (d + 1) mX1_init 0 [(0, jR a0)] [] h Q
  refine jw_ok (fun ok q => ?_)
  replace k := k ok 
  refine wp_aload_n 0 dX1_init_0 rfl ?_
  have c1 := k.1
  replace k := k.2
  refine wp_objInit dX1_init_1 kX1_3 c1 (Nat.le_of_ble_eq_true rfl) ?_
  refine wp_aload_n 0 dX1_init_4 rfl ?_
  refine wp_gets (n := 1) (Or.inl ⟨rfl, rfl, rfl⟩) gX1_9 dX1_init_5 ?_
  refine wp_slenN jS_n1 dX1_init_8 (Or.inl rfl) ?_
  refine wp_newa (at' := .int) (ty := .int) rfl (Or.inl ⟨rfl, rfl⟩) ar_int dX1_init_9 ⟨by decide, by decide⟩ ?_
  have c2 := k.1
  replace k := k.2
  refine wp_putR (ci := 1) (j := 0) rfl (by decide) gX1_15 dX1_init_11 c2 (Or.inr ⟨rfl, rfl, rfl⟩) rfl ?_
  refine wp_iconst dX1_init_14 ⟨by decide, by decide⟩ ?_
  refine wp_istore_n [1, 0] (ls' := [(0, jR a0), (1, jI 0)]) dX1_init_15 (by decide) rfl ?_
  exact k
theorem bX1_init_16 {d : Nat} {h : jH} {Q : jO → jH → Prop} {a0 : Nat} {a1 : Int} (k : jOK h → j32 a1 → ((106 ≤ a1 → jCall d mX1_pattern [jI 2331112, jI 7] h (fun o h51 => ∃ v51, o = .inl (some (jI v51)) ∧ hK h51 a0 = 2 ∧ Q (.inl none) (sI h51 101 a0 v51))) ∧ (¬ (106 ≤ a1) → hK h a0 = 2 ∧ 0 ≤ a1 ∧ a1 < 106 ∧ (j32 ((jS 1).getD (a1).toNat 0) → jCall d mX1_pattern [jI ((jS 1).getD (a1).toNat 0), jI 6] h (fun o h36 => ∃ v36, o = .inl (some (jI v36)) ∧ hK h36 (hR h 100 a0) = 10 ∧ 0 ≤ a1 ∧ a1 < hN h36 (hR h 100 a0) ∧ j32 (a1 + 1) ∧ jWp (d + 1) mX1_init 16 [(0, jR a0), (1, jI (a1 + 1))] [] (sA h36 (hR h 100 a0) a1 v36) Q))))) : jWp (d + 1) mX1_init 16 [(0, jR a0), (1, jI a1)] [] h Q := by
  refine jw_ok (fun ok q => ?_)
  replace k := k ok (q _ (.tail _ (.head _)))
  refine wp_iload_n 1 dX1_init_16 rfl ?_
  refine wp_gets (n := 1) (Or.inl ⟨rfl, rfl, rfl⟩) gX1_9 dX1_init_17 ?_
  refine wp_slenN jS_n1 dX1_init_20 (Or.inl rfl) ?_
  refine wp_icmp_ge 46 dX1_init_21 rfl (fun q => ?_) (fun q => ?_)
  · replace k := k.1 q
    refine wp_aload_n 0 dX1_init_46 rfl ?_
    refine wp_ldc dX1_init_47 eX1_22 rfl ⟨by decide, by decide⟩ ?_
    refine wp_bipush dX1_init_49 ⟨by decide, by decide⟩ ?_
    refine wp_callS (y' := mX1_pattern) (st := [jR a0]) [jI 2331112, jI 7] rfl fX1_pattern kX1_18 nX1_pattern dX1_init_51 (Nat.le_of_ble_eq_true rfl) ?_
    refine jCall.mono k (fun o h51 k => ?_)
    obtain ⟨v51, e, k⟩ := k
    subst e
    show jWp (d + 1) mX1_init 54 [(0, jR a0), (1, jI a1)] [jI v51, jR a0] h51 Q
    have c1 := k.1
    replace k := k.2
    refine wp_putI (ci := 1) (j := 1) rfl (by decide) gX1_23 dX1_init_54 c1 (Or.inr ⟨rfl, rfl, rfl⟩) rfl ?_
    exact wp_return dX1_init_57 rfl k
  · replace k := k.2 q
    refine wp_aload_n 0 dX1_init_24 rfl ?_
    have c2 := k.1
    replace k := k.2
    refine wp_getR (ci := 1) (j := 0) rfl (by decide) gX1_15 dX1_init_25 c2 rfl ?_
    refine wp_iload_n 1 dX1_init_28 rfl ?_
    refine wp_gets (n := 1) (Or.inl ⟨rfl, rfl, rfl⟩) gX1_9 dX1_init_29 ?_
    refine wp_iload_n 1 dX1_init_32 rfl ?_
    have c3 := k.1
    replace k := k.2
    have c4 := k.1
    replace k := k.2
    refine wp_saldN jS_n1 dX1_init_33 (Or.inl rfl) c3 c4 (fun q => ?_)
    have f5 := q
    replace k := k q
    refine wp_bipush dX1_init_34 ⟨by decide, by decide⟩ ?_
    refine wp_callS (y' := mX1_pattern) (st := [jI a1, jR (hR h 100 a0)]) [jI ((jS 1).getD (a1).toNat 0), jI 6] rfl fX1_pattern kX1_18 nX1_pattern dX1_init_36 (Nat.le_of_ble_eq_true rfl) ?_
    refine jCall.mono k (fun o h36 k => ?_)
    obtain ⟨v36, e, k⟩ := k
    subst e
    show jWp (d + 1) mX1_init 39 [(0, jR a0), (1, jI a1)] [jI v36, jI a1, jR (hR h 100 a0)] h36 Q
    have c6 := k.1
    replace k := k.2
    have c7 := k.1
    replace k := k.2
    have c8 := k.1
    replace k := k.2
    refine wp_iastore dX1_init_39 c6 c7 c8 ?_
    have c9 := k.1
    replace k := k.2
    refine wp_iinc 1 [1, 0] (ls' := [(0, jR a0), (1, jI (a1 + 1))]) dX1_init_40 rfl c9 ⟨by decide, by decide⟩ (by decide) rfl ?_
    refine wp_goto 16 dX1_init_43 rfl ?_
    exact k
theorem bX1_pattern {d : Nat} {h : jH} {Q : jO → jH → Prop} {a0 : Int} {a1 : Int} (k : jOK h → j32 a0 → j32 a1 → jWp (d + 1) mX1_pattern 4 [(0, jI a0), (1, jI a1), (2, jI 1), (3, jI 1)] [] h Q) : jCall (d + 1) mX1_pattern [jI a0, jI a1] h Q := by
  refine jCall_of plX1 (Nat.le_of_ble_eq_true rfl) ?_
  show jWp (d + 1) mX1_pattern 0 [(0, jI a0), (1, jI a1)] [] h Q
  refine jw_ok (fun ok q => ?_)
  replace k := k ok (q _ (.head _)) (q _ (.tail _ (.head _)))
  refine wp_iconst dX1_pattern_0 ⟨by decide, by decide⟩ ?_
  refine wp_istore_n [1, 2, 0] (ls' := [(0, jI a0), (1, jI a1), (2, jI 1)]) dX1_pattern_1 (by decide) rfl ?_
  refine wp_iconst dX1_pattern_2 ⟨by decide, by decide⟩ ?_
  refine wp_istore_n [1, 2, 3, 0] (ls' := [(0, jI a0), (1, jI a1), (2, jI 1), (3, jI 1)]) dX1_pattern_3 (by decide) rfl ?_
  exact k
theorem bX1_pattern_4 {d : Nat} {h : jH} {Q : jO → jH → Prop} {a0 : Int} {a1 : Int} {a2 : Int} {a3 : Int} (k : jOK h → j32 a0 → j32 a1 → j32 a2 → j32 a3 → ((a1 ≤ a3 → jWp (d + 1) mX1_pattern 25 [(0, jI a0), (1, jI a1), (2, jI a2), (3, jI 0), (4, jI 0)] [] h Q) ∧ (¬ (a1 ≤ a3) → j32 (a2 * 10) ∧ j32 (a3 + 1) ∧ jWp (d + 1) mX1_pattern 4 [(0, jI a0), (1, jI a1), (2, jI (a2 * 10)), (3, jI (a3 + 1))] [] h Q))) : jWp (d + 1) mX1_pattern 4 [(0, jI a0), (1, jI a1), (2, jI a2), (3, jI a3)] [] h Q := by
  refine jw_ok (fun ok q => ?_)
  replace k := k ok (q _ (.head _)) (q _ (.tail _ (.head _))) (q _ (.tail _ (.tail _ (.head _)))) (q _ (.tail _ (.tail _ (.tail _ (.head _)))))
  refine wp_iload_n 3 dX1_pattern_4 rfl ?_
  refine wp_iload_n 1 dX1_pattern_5 rfl ?_
  refine wp_icmp_ge 20 dX1_pattern_6 rfl (fun q => ?_) (fun q => ?_)
  · replace k := k.1 q
    refine wp_iconst dX1_pattern_20 ⟨by decide, by decide⟩ ?_
    refine wp_istore_n [1, 2, 3, 0] (ls' := [(0, jI a0), (1, jI a1), (2, jI a2), (3, jI 0)]) dX1_pattern_21 (by decide) rfl ?_
    refine wp_iconst dX1_pattern_22 ⟨by decide, by decide⟩ ?_
    refine wp_istore [1, 2, 3, 4, 0] (ls' := [(0, jI a0), (1, jI a1), (2, jI a2), (3, jI 0), (4, jI 0)]) dX1_pattern_23 (by decide) rfl ?_
    exact k
  · replace k := k.2 q
    refine wp_iload_n 2 dX1_pattern_9 rfl ?_
    refine wp_bipush dX1_pattern_10 ⟨by decide, by decide⟩ ?_
    have c1 := k.1
    replace k := k.2
    refine wp_imul dX1_pattern_12 c1 ?_
    refine wp_istore_n [1, 2, 0, 3] (ls' := [(0, jI a0), (1, jI a1), (2, jI (a2 * 10)), (3, jI a3)]) dX1_pattern_13 (by decide) rfl ?_
    have c2 := k.1
    replace k := k.2
    refine wp_iinc 3 [1, 2, 3, 0] (ls' := [(0, jI a0), (1, jI a1), (2, jI (a2 * 10)), (3, jI (a3 + 1))]) dX1_pattern_14 rfl c2 ⟨by decide, by decide⟩ (by decide) rfl ?_
    refine wp_goto 4 dX1_pattern_17 rfl ?_
    exact k
theorem bX1_pattern_25 {d : Nat} {h : jH} {Q : jO → jH → Prop} {a0 : Int} {a1 : Int} {a2 : Int} {a3 : Int} {a4 : Int} (k : jOK h → j32 a0 → j32 a1 → j32 a2 → j32 a3 → j32 a4 → ((a1 ≤ a4 → Q (.inl (some (jI a3))) h) ∧ (¬ (a1 ≤ a4) → 0 ≤ a0 ∧ 0 < a2 ∧ 0 ≤ (a0 / a2) ∧ jWp (d + 1) mX1_pattern 42 [(0, jI a0), (1, jI a1), (2, jI a2), (3, jI a3), (4, jI a4), (5, jI ((a0 / a2) % 10)), (6, jI 0)] [] h Q))) : jWp (d + 1) mX1_pattern 25 [(0, jI a0), (1, jI a1), (2, jI a2), (3, jI a3), (4, jI a4)] [] h Q := by
  refine jw_ok (fun ok q => ?_)
  replace k := k ok (q _ (.head _)) (q _ (.tail _ (.head _))) (q _ (.tail _ (.tail _ (.head _)))) (q _ (.tail _ (.tail _ (.tail _ (.head _))))) (q _ (.tail _ (.tail _ (.tail _ (.tail _ (.head _))))))
  refine wp_iload 4 dX1_pattern_25 rfl ?_
  refine wp_iload_n 1 dX1_pattern_27 rfl ?_
  refine wp_icmp_ge 87 dX1_pattern_28 rfl (fun q => ?_) (fun q => ?_)
  · replace k := k.1 q
    refine wp_iload_n 3 dX1_pattern_87 rfl ?_
    exact wp_iret dX1_pattern_88 rfl k
  · replace k := k.2 q
    refine wp_iload_n 0 dX1_pattern_31 rfl ?_
    refine wp_iload_n 2 dX1_pattern_32 rfl ?_
    have c1 := k.1
    replace k := k.2
    have c2 := k.1
    replace k := k.2
    refine wp_idiv dX1_pattern_33 c1 c2 ?_
    refine wp_bipush dX1_pattern_34 ⟨by decide, by decide⟩ ?_
    have c3 := k.1
    replace k := k.2
    refine wp_irem dX1_pattern_36 c3 (by decide) ?_
    refine wp_istore [1, 2, 3, 4, 5, 0] (ls' := [(0, jI a0), (1, jI a1), (2, jI a2), (3, jI a3), (4, jI a4), (5, jI ((a0 / a2) % 10))]) dX1_pattern_37 (by decide) rfl ?_
    refine wp_iconst dX1_pattern_39 ⟨by decide, by decide⟩ ?_
    refine wp_istore [1, 2, 3, 4, 5, 6, 0] (ls' := [(0, jI a0), (1, jI a1), (2, jI a2), (3, jI a3), (4, jI a4), (5, jI ((a0 / a2) % 10)), (6, jI 0)]) dX1_pattern_40 (by decide) rfl ?_
    exact k
theorem bX1_pattern_42 {d : Nat} {h : jH} {Q : jO → jH → Prop} {a0 : Int} {a1 : Int} {a2 : Int} {a3 : Int} {a4 : Int} {a5 : Int} {a6 : Int} (k : jOK h → j32 a0 → j32 a1 → j32 a2 → j32 a3 → j32 a4 → j32 a5 → j32 a6 → ((a5 ≤ a6 → 0 ≤ a2 ∧ jCall d mJ9_max_7cf53 [jI (a2 / 10), jI 1] h (fun o h77 => ∃ v77, o = .inl (some (jI v77)) ∧ j32 (a4 + 1) ∧ jWp (d + 1) mX1_pattern 25 [(0, jI a0), (1, jI a1), (2, jI v77), (3, jI a3), (4, jI (a4 + 1))] [] h77 Q)) ∧ (¬ (a5 ≤ a6) → j32 (a3 * 2) ∧ 0 ≤ a4 ∧ (((a4 % 2) ≠ 0 → j32 ((a3 * 2) + 0) ∧ j32 (a6 + 1) ∧ jWp (d + 1) mX1_pattern 42 [(0, jI a0), (1, jI a1), (2, jI a2), (3, jI ((a3 * 2) + 0)), (4, jI a4), (5, jI a5), (6, jI (a6 + 1))] [] h Q) ∧ ((a4 % 2) = 0 → j32 ((a3 * 2) + 1) ∧ j32 (a6 + 1) ∧ jWp (d + 1) mX1_pattern 42 [(0, jI a0), (1, jI a1), (2, jI a2), (3, jI ((a3 * 2) + 1)), (4, jI a4), (5, jI a5), (6, jI (a6 + 1))] [] h Q))))) : jWp (d + 1) mX1_pattern 42 [(0, jI a0), (1, jI a1), (2, jI a2), (3, jI a3), (4, jI a4), (5, jI a5), (6, jI a6)] [] h Q := by
  refine jw_ok (fun ok q => ?_)
  replace k := k ok (q _ (.head _)) (q _ (.tail _ (.head _))) (q _ (.tail _ (.tail _ (.head _)))) (q _ (.tail _ (.tail _ (.tail _ (.head _))))) (q _ (.tail _ (.tail _ (.tail _ (.tail _ (.head _)))))) (q _ (.tail _ (.tail _ (.tail _ (.tail _ (.tail _ (.head _))))))) (q _ (.tail _ (.tail _ (.tail _ (.tail _ (.tail _ (.tail _ (.head _))))))))
  refine wp_iload 6 dX1_pattern_42 rfl ?_
  refine wp_iload 5 dX1_pattern_44 rfl ?_
  refine wp_icmp_ge 72 dX1_pattern_46 rfl (fun q => ?_) (fun q => ?_)
  · replace k := k.1 q
    refine wp_iload_n 2 dX1_pattern_72 rfl ?_
    refine wp_bipush dX1_pattern_73 ⟨by decide, by decide⟩ ?_
    have c1 := k.1
    replace k := k.2
    refine wp_idiv dX1_pattern_75 c1 (by decide) ?_
    refine wp_iconst dX1_pattern_76 ⟨by decide, by decide⟩ ?_
    refine wp_callS (y' := mJ9_max_7cf53) (st := []) [jI (a2 / 10), jI 1] rfl fJ9_max_7cf53 kX1_27 nJ9_max_7cf53 dX1_pattern_77 (Nat.le_of_ble_eq_true rfl) ?_
    refine jCall.mono k (fun o h77 k => ?_)
    obtain ⟨v77, e, k⟩ := k
    subst e
    show jWp (d + 1) mX1_pattern 80 [(0, jI a0), (1, jI a1), (2, jI a2), (3, jI a3), (4, jI a4), (5, jI a5), (6, jI a6)] [jI v77] h77 Q
    refine wp_istore_n [1, 2, 0, 3, 4] (ls' := [(0, jI a0), (1, jI a1), (2, jI v77), (3, jI a3), (4, jI a4)]) dX1_pattern_80 (by decide) rfl ?_
    have c2 := k.1
    replace k := k.2
    refine wp_iinc 4 [1, 2, 3, 4, 0] (ls' := [(0, jI a0), (1, jI a1), (2, jI v77), (3, jI a3), (4, jI (a4 + 1))]) dX1_pattern_81 rfl c2 ⟨by decide, by decide⟩ (by decide) rfl ?_
    refine wp_goto 25 dX1_pattern_84 rfl ?_
    exact k
  · replace k := k.2 q
    refine wp_iload_n 3 dX1_pattern_49 rfl ?_
    refine wp_iconst dX1_pattern_50 ⟨by decide, by decide⟩ ?_
    have c3 := k.1
    replace k := k.2
    refine wp_imul dX1_pattern_51 c3 ?_
    refine wp_iload 4 dX1_pattern_52 rfl ?_
    refine wp_iconst dX1_pattern_54 ⟨by decide, by decide⟩ ?_
    have c4 := k.1
    replace k := k.2
    refine wp_irem dX1_pattern_55 c4 (by decide) ?_
    refine wp_if_ne 63 dX1_pattern_56 rfl (fun q => ?_) (fun q => ?_)
    · replace k := k.1 q
      refine wp_iconst dX1_pattern_63 ⟨by decide, by decide⟩ ?_
      have c5 := k.1
      replace k := k.2
      refine wp_iadd dX1_pattern_64 c5 ?_
      refine wp_istore_n [1, 2, 3, 0, 4, 5, 6] (ls' := [(0, jI a0), (1, jI a1), (2, jI a2), (3, jI ((a3 * 2) + 0)), (4, jI a4), (5, jI a5), (6, jI a6)]) dX1_pattern_65 (by decide) rfl ?_
      have c6 := k.1
      replace k := k.2
      refine wp_iinc 6 [1, 2, 3, 4, 5, 6, 0] (ls' := [(0, jI a0), (1, jI a1), (2, jI a2), (3, jI ((a3 * 2) + 0)), (4, jI a4), (5, jI a5), (6, jI (a6 + 1))]) dX1_pattern_66 rfl c6 ⟨by decide, by decide⟩ (by decide) rfl ?_
      refine wp_goto 42 dX1_pattern_69 rfl ?_
      exact k
    · replace k := k.2 q
      refine wp_iconst dX1_pattern_59 ⟨by decide, by decide⟩ ?_
      refine wp_goto 64 dX1_pattern_60 rfl ?_
      have c7 := k.1
      replace k := k.2
      refine wp_iadd dX1_pattern_64 c7 ?_
      refine wp_istore_n [1, 2, 3, 0, 4, 5, 6] (ls' := [(0, jI a0), (1, jI a1), (2, jI a2), (3, jI ((a3 * 2) + 1)), (4, jI a4), (5, jI a5), (6, jI a6)]) dX1_pattern_65 (by decide) rfl ?_
      have c8 := k.1
      replace k := k.2
      refine wp_iinc 6 [1, 2, 3, 4, 5, 6, 0] (ls' := [(0, jI a0), (1, jI a1), (2, jI a2), (3, jI ((a3 * 2) + 1)), (4, jI a4), (5, jI a5), (6, jI (a6 + 1))]) dX1_pattern_66 rfl c8 ⟨by decide, by decide⟩ (by decide) rfl ?_
      refine wp_goto 42 dX1_pattern_69 rfl ?_
      exact k
theorem bX1_isStop {d : Nat} {h : jH} {Q : jO → jH → Prop} {a0 : Nat} {a1 : Int} (k : jOK h → j32 a1 → hK h a0 = 2 ∧ (j32 (hI h 101 a0) → ((a1 ≠ (hI h 101 a0) → Q (.inl (some (jI 0))) h) ∧ (a1 = (hI h 101 a0) → Q (.inl (some (jI 1))) h)))) : jCall d mX1_isStop [jR a0, jI a1] h Q := by
  refine jCall_of plX1 (Nat.le_of_ble_eq_true rfl) ?_
  show jWp d mX1_isStop 0 [(0, jR a0), (1, jI a1)] [] h Q
  refine jw_ok (fun ok q => ?_)
  replace k := k ok (q _ (.tail _ (.head _)))
  refine wp_iload_n 1 dX1_isStop_0 rfl ?_
  refine wp_aload_n 0 dX1_isStop_1 rfl ?_
  have c1 := k.1
  replace k := k.2
  refine wp_getI (ci := 1) (j := 1) rfl (by decide) gX1_23 dX1_isStop_2 c1 rfl (fun q => ?_)
  have f2 := q
  replace k := k q
  refine wp_icmp_ne 12 dX1_isStop_5 rfl (fun q => ?_) (fun q => ?_)
  · replace k := k.1 q
    refine wp_iconst dX1_isStop_12 ⟨by decide, by decide⟩ ?_
    exact wp_zreturn dX1_isStop_13 rfl (by decide) (by decide) k
  · replace k := k.2 q
    refine wp_iconst dX1_isStop_8 ⟨by decide, by decide⟩ ?_
    refine wp_goto 13 dX1_isStop_9 rfl ?_
    exact wp_zreturn dX1_isStop_13 rfl (by decide) (by decide) k
theorem bX1_characterOf {d : Nat} {h : jH} {Q : jO → jH → Prop} {a0 : Nat} {a1 : Int} (k : jOK h → j32 a1 → jWp d mX1_characterOf 2 [(0, jR a0), (1, jI a1), (2, jI 0)] [] h Q) : jCall d mX1_characterOf [jR a0, jI a1] h Q := by
  refine jCall_of plX1 (Nat.le_of_ble_eq_true rfl) ?_
  show jWp d mX1_characterOf 0 [(0, jR a0), (1, jI a1)] [] h Q
  refine jw_ok (fun ok q => ?_)
  replace k := k ok (q _ (.tail _ (.head _)))
  refine wp_iconst dX1_characterOf_0 ⟨by decide, by decide⟩ ?_
  refine wp_istore_n [1, 2, 0] (ls' := [(0, jR a0), (1, jI a1), (2, jI 0)]) dX1_characterOf_1 (by decide) rfl ?_
  exact k
theorem bX1_characterOf_2 {d : Nat} {h : jH} {Q : jO → jH → Prop} {a0 : Nat} {a1 : Int} {a2 : Int} (k : jOK h → j32 a1 → j32 a2 → hK h a0 = 2 ∧ hK h (hR h 100 a0) = 10 ∧ (0 ≤ (hN h (hR h 100 a0)) → (((hN h (hR h 100 a0)) ≤ a2 → Q (.inl (some (jI (-1)))) h) ∧ (¬ ((hN h (hR h 100 a0)) ≤ a2) → 0 ≤ a2 ∧ a2 < hN h (hR h 100 a0) ∧ (j32 (hA h (hR h 100 a0) a2) → (((hA h (hR h 100 a0) a2) ≠ a1 → j32 (a2 + 1) ∧ jWp d mX1_characterOf 2 [(0, jR a0), (1, jI a1), (2, jI (a2 + 1))] [] h Q) ∧ ((hA h (hR h 100 a0) a2) = a1 → Q (.inl (some (jI a2))) h))))))) : jWp d mX1_characterOf 2 [(0, jR a0), (1, jI a1), (2, jI a2)] [] h Q := by
  refine jw_ok (fun ok q => ?_)
  replace k := k ok (q _ (.tail _ (.head _))) (q _ (.tail _ (.tail _ (.head _))))
  refine wp_iload_n 2 dX1_characterOf_2 rfl ?_
  refine wp_aload_n 0 dX1_characterOf_3 rfl ?_
  have c1 := k.1
  replace k := k.2
  refine wp_getR (ci := 1) (j := 0) rfl (by decide) gX1_15 dX1_characterOf_4 c1 rfl ?_
  have c2 := k.1
  replace k := k.2
  refine wp_alen (n := 10) dX1_characterOf_7 c2 ⟨by decide, by decide⟩ (fun q q9 => ?_)
  have f3 := q
  replace k := k q
  refine wp_icmp_ge 29 dX1_characterOf_8 rfl (fun q => ?_) (fun q => ?_)
  · replace k := k.1 q
    refine wp_iconst dX1_characterOf_29 ⟨by decide, by decide⟩ ?_
    exact wp_iret dX1_characterOf_30 rfl k
  · replace k := k.2 q
    refine wp_aload_n 0 dX1_characterOf_11 rfl ?_
    refine wp_getR (ci := 1) (j := 0) rfl (by decide) gX1_15 dX1_characterOf_12 c1 rfl ?_
    refine wp_iload_n 2 dX1_characterOf_15 rfl ?_
    have c4 := k.1
    replace k := k.2
    have c5 := k.1
    replace k := k.2
    refine wp_iaload dX1_characterOf_16 c2 c4 c5 (fun q => ?_)
    have f6 := q
    replace k := k q
    refine wp_iload_n 1 dX1_characterOf_17 rfl ?_
    refine wp_icmp_ne 23 dX1_characterOf_18 rfl (fun q => ?_) (fun q => ?_)
    · replace k := k.1 q
      have c7 := k.1
      replace k := k.2
      refine wp_iinc 2 [1, 2, 0] (ls' := [(0, jR a0), (1, jI a1), (2, jI (a2 + 1))]) dX1_characterOf_23 rfl c7 ⟨by decide, by decide⟩ (by decide) rfl ?_
      refine wp_goto 2 dX1_characterOf_26 rfl ?_
      exact k
    · replace k := k.2 q
      refine wp_iload_n 2 dX1_characterOf_21 rfl ?_
      exact wp_iret dX1_characterOf_22 rfl k
theorem bX1_put {d : Nat} {h : jH} {Q : jO → jH → Prop} {a0 : Nat} {a1 : Nat} {a2 : Int} (k : jOK h → j32 a2 → ((a2 < 0 → hK h a0 = 2 ∧ (j32 (hI h 101 a0) → j32 (13 - 1) ∧ jWp (d + 1) mX1_put 57 [(1, jR a1), (4, jI (hI h 101 a0)), (6, jI (13 - 1))] [] h Q)) ∧ (¬ (a2 < 0) → hK h a0 = 2 ∧ hK h (hR h 100 a0) = 10 ∧ (0 ≤ (hN h (hR h 100 a0)) → (((hN h (hR h 100 a0)) ≤ a2 → (j32 (hI h 101 a0) → j32 (13 - 1) ∧ jWp (d + 1) mX1_put 57 [(1, jR a1), (4, jI (hI h 101 a0)), (6, jI (13 - 1))] [] h Q)) ∧ (¬ ((hN h (hR h 100 a0)) ≤ a2) → 0 ≤ a2 ∧ a2 < hN h (hR h 100 a0) ∧ (j32 (hA h (hR h 100 a0) a2) → j32 (11 - 1) ∧ jWp (d + 1) mX1_put 57 [(1, jR a1), (4, jI (hA h (hR h 100 a0) a2)), (6, jI (11 - 1))] [] h Q))))))) : jCall (d + 1) mX1_put [jR a0, jR a1, jI a2] h Q := by
  refine jCall_of plX1 (Nat.le_of_ble_eq_true rfl) ?_
  show jWp (d + 1) mX1_put 0 [(0, jR a0), (1, jR a1), (2, jI a2)] [] h Q
  refine jw_ok (fun ok q => ?_)
  replace k := k ok (q _ (.tail _ (.tail _ (.head _))))
  refine wp_iload_n 2 dX1_put_0 rfl ?_
  refine wp_if_lt 17 dX1_put_1 rfl (fun q => ?_) (fun q => ?_)
  · replace k := k.1 q
    refine wp_iconst dX1_put_17 ⟨by decide, by decide⟩ ?_
    refine wp_istore_n [1, 2, 3, 0] (ls' := [(0, jR a0), (1, jR a1), (2, jI a2), (3, jI 0)]) dX1_put_18 (by decide) rfl ?_
    refine wp_iload_n 3 dX1_put_19 rfl ?_
    refine wp_if_eq 32 dX1_put_20 rfl (fun q => ?_) (fun q => absurd q (by decide))
    refine wp_aload_n 0 dX1_put_32 rfl ?_
    have c1 := k.1
    replace k := k.2
    refine wp_getI (ci := 1) (j := 1) rfl (by decide) gX1_23 dX1_put_33 c1 rfl (fun q => ?_)
    have f2 := q
    replace k := k q
    refine wp_istore [2, 4, 0] (ls' := [(1, jR a1), (3, jI 0), (4, jI (hI h 101 a0))]) dX1_put_36 (by decide) rfl ?_
    refine wp_iload_n 1 dX1_put_38 rfl ?_
    refine wp_if_eq 47 dX1_put_39 rfl (fun q => ?_) (fun q => absurd q (by decide))
    refine wp_bipush dX1_put_47 ⟨by decide, by decide⟩ ?_
    refine wp_istore [1, 3, 0] (ls' := [(1, jR a1), (4, jI (hI h 101 a0)), (5, jI 13)]) dX1_put_49 (by decide) rfl ?_
    refine wp_iload 2 dX1_put_51 rfl ?_
    refine wp_iconst dX1_put_53 ⟨by decide, by decide⟩ ?_
    have c3 := k.1
    replace k := k.2
    refine wp_isub dX1_put_54 c3 ?_
    refine wp_istore [1, 2, 0] (ls' := [(1, jR a1), (4, jI (hI h 101 a0)), (6, jI (13 - 1))]) dX1_put_55 (by decide) rfl ?_
    exact k
  · replace k := k.2 q
    refine wp_iload_n 2 dX1_put_4 rfl ?_
    refine wp_aload_n 0 dX1_put_5 rfl ?_
    have c4 := k.1
    replace k := k.2
    refine wp_getR (ci := 1) (j := 0) rfl (by decide) gX1_15 dX1_put_6 c4 rfl ?_
    have c5 := k.1
    replace k := k.2
    refine wp_alen (n := 10) dX1_put_9 c5 ⟨by decide, by decide⟩ (fun q q9 => ?_)
    have f6 := q
    replace k := k q
    refine wp_icmp_ge 17 dX1_put_10 rfl (fun q => ?_) (fun q => ?_)
    · replace k := k.1 q
      refine wp_iconst dX1_put_17 ⟨by decide, by decide⟩ ?_
      refine wp_istore_n [1, 2, 3, 0] (ls' := [(0, jR a0), (1, jR a1), (2, jI a2), (3, jI 0)]) dX1_put_18 (by decide) rfl ?_
      refine wp_iload_n 3 dX1_put_19 rfl ?_
      refine wp_if_eq 32 dX1_put_20 rfl (fun q => ?_) (fun q => absurd q (by decide))
      refine wp_aload_n 0 dX1_put_32 rfl ?_
      refine wp_getI (ci := 1) (j := 1) rfl (by decide) gX1_23 dX1_put_33 c4 rfl (fun q => ?_)
      have f7 := q
      replace k := k q
      refine wp_istore [2, 4, 0] (ls' := [(1, jR a1), (3, jI 0), (4, jI (hI h 101 a0))]) dX1_put_36 (by decide) rfl ?_
      refine wp_iload_n 1 dX1_put_38 rfl ?_
      refine wp_if_eq 47 dX1_put_39 rfl (fun q => ?_) (fun q => absurd q (by decide))
      refine wp_bipush dX1_put_47 ⟨by decide, by decide⟩ ?_
      refine wp_istore [1, 3, 0] (ls' := [(1, jR a1), (4, jI (hI h 101 a0)), (5, jI 13)]) dX1_put_49 (by decide) rfl ?_
      refine wp_iload 2 dX1_put_51 rfl ?_
      refine wp_iconst dX1_put_53 ⟨by decide, by decide⟩ ?_
      have c8 := k.1
      replace k := k.2
      refine wp_isub dX1_put_54 c8 ?_
      refine wp_istore [1, 2, 0] (ls' := [(1, jR a1), (4, jI (hI h 101 a0)), (6, jI (13 - 1))]) dX1_put_55 (by decide) rfl ?_
      exact k
    · replace k := k.2 q
      refine wp_iconst dX1_put_13 ⟨by decide, by decide⟩ ?_
      refine wp_goto 18 dX1_put_14 rfl ?_
      refine wp_istore_n [1, 2, 3, 0] (ls' := [(0, jR a0), (1, jR a1), (2, jI a2), (3, jI 1)]) dX1_put_18 (by decide) rfl ?_
      refine wp_iload_n 3 dX1_put_19 rfl ?_
      refine wp_if_eq 32 dX1_put_20 rfl (fun q => absurd q (by decide)) (fun q => ?_)
      refine wp_aload_n 0 dX1_put_23 rfl ?_
      refine wp_getR (ci := 1) (j := 0) rfl (by decide) gX1_15 dX1_put_24 c4 rfl ?_
      refine wp_iload_n 2 dX1_put_27 rfl ?_
      have c9 := k.1
      replace k := k.2
      have c10 := k.1
      replace k := k.2
      refine wp_iaload dX1_put_28 c5 c9 c10 (fun q => ?_)
      have f11 := q
      replace k := k q
      refine wp_goto 36 dX1_put_29 rfl ?_
      refine wp_istore [2, 4, 0] (ls' := [(1, jR a1), (3, jI 1), (4, jI (hA h (hR h 100 a0) a2))]) dX1_put_36 (by decide) rfl ?_
      refine wp_iload_n 1 dX1_put_38 rfl ?_
      refine wp_if_eq 47 dX1_put_39 rfl (fun q => absurd q (by decide)) (fun q => ?_)
      refine wp_bipush dX1_put_42 ⟨by decide, by decide⟩ ?_
      refine wp_goto 49 dX1_put_44 rfl ?_
      refine wp_istore [1, 3, 0] (ls' := [(1, jR a1), (4, jI (hA h (hR h 100 a0) a2)), (5, jI 11)]) dX1_put_49 (by decide) rfl ?_
      refine wp_iload 2 dX1_put_51 rfl ?_
      refine wp_iconst dX1_put_53 ⟨by decide, by decide⟩ ?_
      have c12 := k.1
      replace k := k.2
      refine wp_isub dX1_put_54 c12 ?_
      refine wp_istore [1, 2, 0] (ls' := [(1, jR a1), (4, jI (hA h (hR h 100 a0) a2)), (6, jI (11 - 1))]) dX1_put_55 (by decide) rfl ?_
      exact k
theorem bX1_put_57 {d : Nat} {h : jH} {Q : jO → jH → Prop} {a1 : Nat} {a4 : Int} {a6 : Int} (k : jOK h → j32 a4 → j32 a6 → ((a6 < 0 → Q (.inl none) h) ∧ (¬ (a6 < 0) → 0 ≤ a6 ∧ a6 < 32 ∧ hK h a1 = 6 ∧ jCall d mX7_put [jR a1, jI ((a4 / 2 ^ (a6).toNat) % 2)] h (fun o h70 => o = .inl none ∧ j32 (a6 + (-1)) ∧ jWp (d + 1) mX1_put 57 [(1, jR a1), (4, jI a4), (6, jI (a6 + (-1)))] [] h70 Q)))) : jWp (d + 1) mX1_put 57 [(1, jR a1), (4, jI a4), (6, jI a6)] [] h Q := by
  refine jw_ok (fun ok q => ?_)
  replace k := k ok (q _ (.tail _ (.head _))) (q _ (.tail _ (.tail _ (.head _))))
  refine wp_iload 2 dX1_put_57 rfl ?_
  refine wp_if_lt 79 dX1_put_59 rfl (fun q => ?_) (fun q => ?_)
  · replace k := k.1 q
    exact wp_return dX1_put_79 rfl k
  · replace k := k.2 q
    refine wp_aload_n 0 dX1_put_62 rfl ?_
    refine wp_iload 1 dX1_put_63 rfl ?_
    refine wp_iload 2 dX1_put_65 rfl ?_
    have c1 := k.1
    replace k := k.2
    have c2 := k.1
    replace k := k.2
    refine wp_ishr dX1_put_67 c1 c2 ?_
    refine wp_iconst dX1_put_68 ⟨by decide, by decide⟩ ?_
    refine wp_iand1 dX1_put_69 ?_
    have c3 := k.1
    replace k := k.2
    refine wp_callV (ci := 5) (y' := mX7_put) (st := []) [jI ((a4 / 2 ^ (a6).toNat) % 2)] rfl rfl rfl fX7_put kX1_32 nX7_put dX1_put_70 (Nat.le_of_ble_eq_true rfl) c3 ?_
    refine jCall.mono k (fun o h70 k => ?_)
    obtain ⟨e, k⟩ := k
    subst e
    show jWp (d + 1) mX1_put 73 [(1, jR a1), (4, jI a4), (6, jI a6)] [] h70 Q
    have c4 := k.1
    replace k := k.2
    refine wp_iinc 2 [1, 2, 0] (ls' := [(1, jR a1), (4, jI a4), (6, jI (a6 + (-1)))]) dX1_put_73 rfl c4 ⟨by decide, by decide⟩ (by decide) rfl ?_
    refine wp_goto 57 dX1_put_76 rfl ?_
    exact k
theorem bX5_init {d : Nat} {h : jH} {Q : jO → jH → Prop} {a0 : Nat} (k : jOK h → a0 ≠ 0 ∧ hK (sN h 10 50 50) a0 = 4 ∧ hK (sN (sR (sN h 10 50 50) 300 a0 (hS h)) 10 50 50) a0 = 4 ∧ (hS (sN (sR (sN h 10 50 50) 300 a0 (hS h)) 10 50 50)) ≠ 0 ∧ jCall d mX7_init [jR (hS (sN (sR (sN h 10 50 50) 300 a0 (hS h)) 10 50 50)), jI 0] (sN (sR (sN (sR (sN h 10 50 50) 300 a0 (hS h)) 10 50 50) 301 a0 (hS (sN h 10 50 50))) 6 0 2) (fun o h26 => o = .inl none ∧ hK h26 a0 = 4 ∧ Q (.inl none) (sR h26 302 a0 (hS (sN (sR (sN h 10 50 50) 300 a0 (hS h)) 10 50 50))))) : jCall (d + 1) mX5_init [jR a0] h Q := by
  refine jCall_of plX5 (Nat.le_of_ble_eq_true rfl) ?_
  show jWp (d + 1) mX5_init 0 [(0, jR a0)] [] h Q
  refine jw_ok (fun ok q => ?_)
  replace k := k ok 
  refine wp_aload_n 0 dX5_init_0 rfl ?_
  have c1 := k.1
  replace k := k.2
  refine wp_objInit dX5_init_1 kX5_3 c1 (Nat.le_of_ble_eq_true rfl) ?_
  refine wp_aload_n 0 dX5_init_4 rfl ?_
  refine wp_bipush dX5_init_5 ⟨by decide, by decide⟩ ?_
  refine wp_newa (at' := .int) (ty := .int) rfl (Or.inl ⟨rfl, rfl⟩) ar_int dX5_init_7 ⟨by decide, by decide⟩ ?_
  have c2 := k.1
  replace k := k.2
  refine wp_putR (ci := 3) (j := 0) rfl (by decide) gX5_9 dX5_init_9 c2 (Or.inr ⟨rfl, rfl, rfl⟩) rfl ?_
  refine wp_aload_n 0 dX5_init_12 rfl ?_
  refine wp_bipush dX5_init_13 ⟨by decide, by decide⟩ ?_
  refine wp_newa (at' := .int) (ty := .int) rfl (Or.inl ⟨rfl, rfl⟩) ar_int dX5_init_15 ⟨by decide, by decide⟩ ?_
  have c3 := k.1
  replace k := k.2
  refine wp_putR (ci := 3) (j := 1) rfl (by decide) gX5_15 dX5_init_17 c3 (Or.inr ⟨rfl, rfl, rfl⟩) rfl ?_
  refine wp_aload_n 0 dX5_init_20 rfl ?_
  refine wp_new (ci := 5) rfl qX5_18 iX7 inX7 dX5_init_21 ?_
  refine wp_dup dX5_init_24 rfl ?_
  refine wp_iconst dX5_init_25 ⟨by decide, by decide⟩ ?_
  have c4 := k.1
  replace k := k.2
  refine wp_callI (y' := mX7_init) (st := [jR (hS (sN (sR (sN h 10 50 50) 300 a0 (hS h)) 10 50 50)), jR a0]) [jI 0] rfl fX7_init kX5_20 nX7_init dX5_init_26 (Nat.le_of_ble_eq_true rfl) c4 ?_
  refine jCall.mono k (fun o h26 k => ?_)
  obtain ⟨e, k⟩ := k
  refine ⟨e, ?_⟩
  show jWp (d + 1) mX5_init 29 [(0, jR a0)] [jR (hS (sN (sR (sN h 10 50 50) 300 a0 (hS h)) 10 50 50)), jR a0] h26 Q
  have c5 := k.1
  replace k := k.2
  refine wp_putR (ci := 3) (j := 2) rfl (by decide) gX5_23 dX5_init_29 c5 (Or.inl rfl) rfl ?_
  exact wp_return dX5_init_32 rfl k
theorem bX5_encode {d : Nat} {h : jH} {Q : jO → jH → Prop} {a0 : Nat} {a1 : Nat} {a2 : Nat} (k : jOK h → hK h a0 = 4 ∧ jCall d mX5_countBackwards [jR a0] (sR h 302 a0 a1) (fun o h6 => o = .inl none ∧ hK h6 a2 = 6 ∧ jCall d mX7_clear [jR a2] h6 (fun o h10 => o = .inl none ∧ hK h10 a0 = 4 ∧ hK h10 (hR h10 301 a0) = 10 ∧ 0 ≤ (0 : Int) ∧ 0 < hN h10 (hR h10 301 a0) ∧ (j32 (hA h10 (hR h10 301 a0) 0) → hK h10 (hR h10 300 a0) = 10 ∧ 0 < hN h10 (hR h10 300 a0) ∧ (j32 (hA h10 (hR h10 300 a0) 0) → (((hA h10 (hR h10 300 a0) 0) ≤ (hA h10 (hR h10 301 a0) 0) → hK h10 a2 = 6 ∧ jCall d mX7_put [jR a2, jI 104] h10 (fun o h46 => o = .inl none ∧ hK h46 a2 = 6 ∧ jCall d mX7_put [jR a2, jI 102] h46 (fun o h52 => o = .inl none ∧ jWp (d + 1) mX5_encode 61 [(0, jR a0), (2, jR a2), (3, jI 0), (4, jI 0), (5, jI 0)] [] h52 Q))) ∧ (¬ ((hA h10 (hR h10 300 a0) 0) ≤ (hA h10 (hR h10 301 a0) 0)) → hK h10 a2 = 6 ∧ jCall d mX7_put [jR a2, jI 105] h10 (fun o h46_1 => o = .inl none ∧ hK h46_1 a2 = 6 ∧ jCall d mX7_put [jR a2, jI 102] h46_1 (fun o h52_1 => o = .inl none ∧ jWp (d + 1) mX5_encode 61 [(0, jR a0), (2, jR a2), (3, jI 1), (4, jI 0), (5, jI 0)] [] h52_1 Q))))))))) : jCall (d + 1) mX5_encode [jR a0, jR a1, jR a2] h Q := by
  refine jCall_of plX5 (Nat.le_of_ble_eq_true rfl) ?_
  show jWp (d + 1) mX5_encode 0 [(0, jR a0), (1, jR a1), (2, jR a2)] [] h Q
  refine jw_ok (fun ok q => ?_)
  replace k := k ok 
  refine wp_aload_n 0 dX5_encode_0 rfl ?_
  refine wp_aload_n 1 dX5_encode_1 rfl ?_
  have c1 := k.1
  replace k := k.2
  refine wp_putR (ci := 3) (j := 2) rfl (by decide) gX5_23 dX5_encode_2 c1 (Or.inl rfl) rfl ?_
  refine wp_aload_n 0 dX5_encode_5 rfl ?_
  refine wp_callV (ci := 3) (y' := mX5_countBackwards) (st := []) [] rfl rfl rfl fX5_countBackwards kX5_27 nX5_countBackwards dX5_encode_6 (Nat.le_of_ble_eq_true rfl) c1 ?_
  refine jCall.mono k (fun o h6 k => ?_)
  obtain ⟨e, k⟩ := k
  subst e
  show jWp (d + 1) mX5_encode 9 [(0, jR a0), (1, jR a1), (2, jR a2)] [] h6 Q
  refine wp_aload_n 2 dX5_encode_9 rfl ?_
  have c2 := k.1
  replace k := k.2
  refine wp_callV (ci := 5) (y' := mX7_clear) (st := []) [] rfl rfl rfl fX7_clear kX5_30 nX7_clear dX5_encode_10 (Nat.le_of_ble_eq_true rfl) c2 ?_
  refine jCall.mono k (fun o h10 k => ?_)
  obtain ⟨e, k⟩ := k
  subst e
  show jWp (d + 1) mX5_encode 13 [(0, jR a0), (1, jR a1), (2, jR a2)] [] h10 Q
  refine wp_aload_n 0 dX5_encode_13 rfl ?_
  have c3 := k.1
  replace k := k.2
  refine wp_getR (ci := 3) (j := 1) rfl (by decide) gX5_15 dX5_encode_14 c3 rfl ?_
  refine wp_iconst dX5_encode_17 ⟨by decide, by decide⟩ ?_
  have c4 := k.1
  replace k := k.2
  have c5 := k.1
  replace k := k.2
  have c6 := k.1
  replace k := k.2
  refine wp_iaload dX5_encode_18 c4 c5 c6 (fun q => ?_)
  have f7 := q
  replace k := k q
  refine wp_aload_n 0 dX5_encode_19 rfl ?_
  refine wp_getR (ci := 3) (j := 0) rfl (by decide) gX5_9 dX5_encode_20 c3 rfl ?_
  refine wp_iconst dX5_encode_23 ⟨by decide, by decide⟩ ?_
  have c8 := k.1
  replace k := k.2
  have c9 := k.1
  replace k := k.2
  refine wp_iaload dX5_encode_24 c8 c5 c9 (fun q => ?_)
  have f10 := q
  replace k := k q
  refine wp_icmp_ge 32 dX5_encode_25 rfl (fun q => ?_) (fun q => ?_)
  · replace k := k.1 q
    refine wp_iconst dX5_encode_32 ⟨by decide, by decide⟩ ?_
    refine wp_istore_n [1, 3, 0] (ls' := [(0, jR a0), (2, jR a2), (3, jI 0)]) dX5_encode_33 (by decide) rfl ?_
    refine wp_aload_n 1 dX5_encode_34 rfl ?_
    refine wp_iload_n 2 dX5_encode_35 rfl ?_
    refine wp_if_eq 44 dX5_encode_36 rfl (fun q => ?_) (fun q => absurd q (by decide))
    refine wp_bipush dX5_encode_44 ⟨by decide, by decide⟩ ?_
    have c11 := k.1
    replace k := k.2
    refine wp_callV (ci := 5) (y' := mX7_put) (st := []) [jI 104] rfl rfl rfl fX7_put kX5_35 nX7_put dX5_encode_46 (Nat.le_of_ble_eq_true rfl) c11 ?_
    refine jCall.mono k (fun o h46 k => ?_)
    obtain ⟨e, k⟩ := k
    subst e
    show jWp (d + 1) mX5_encode 49 [(0, jR a0), (2, jR a2), (3, jI 0)] [] h46 Q
    refine wp_aload_n 1 dX5_encode_49 rfl ?_
    refine wp_bipush dX5_encode_50 ⟨by decide, by decide⟩ ?_
    have c12 := k.1
    replace k := k.2
    refine wp_callV (ci := 5) (y' := mX7_put) (st := []) [jI 102] rfl rfl rfl fX7_put kX5_35 nX7_put dX5_encode_52 (Nat.le_of_ble_eq_true rfl) c12 ?_
    refine jCall.mono k (fun o h52 k => ?_)
    obtain ⟨e, k⟩ := k
    subst e
    show jWp (d + 1) mX5_encode 55 [(0, jR a0), (2, jR a2), (3, jI 0)] [] h52 Q
    refine wp_iconst dX5_encode_55 ⟨by decide, by decide⟩ ?_
    refine wp_istore [1, 2, 3, 0] (ls' := [(0, jR a0), (2, jR a2), (3, jI 0), (4, jI 0)]) dX5_encode_56 (by decide) rfl ?_
    refine wp_iconst dX5_encode_58 ⟨by decide, by decide⟩ ?_
    refine wp_istore [1, 2, 3, 4, 0] (ls' := [(0, jR a0), (2, jR a2), (3, jI 0), (4, jI 0), (5, jI 0)]) dX5_encode_59 (by decide) rfl ?_
    exact k
  · replace k := k.2 q
    refine wp_iconst dX5_encode_28 ⟨by decide, by decide⟩ ?_
    refine wp_goto 33 dX5_encode_29 rfl ?_
    refine wp_istore_n [1, 3, 0] (ls' := [(0, jR a0), (2, jR a2), (3, jI 1)]) dX5_encode_33 (by decide) rfl ?_
    refine wp_aload_n 1 dX5_encode_34 rfl ?_
    refine wp_iload_n 2 dX5_encode_35 rfl ?_
    refine wp_if_eq 44 dX5_encode_36 rfl (fun q => absurd q (by decide)) (fun q => ?_)
    refine wp_bipush dX5_encode_39 ⟨by decide, by decide⟩ ?_
    refine wp_goto 46 dX5_encode_41 rfl ?_
    have c13 := k.1
    replace k := k.2
    refine wp_callV (ci := 5) (y' := mX7_put) (st := []) [jI 105] rfl rfl rfl fX7_put kX5_35 nX7_put dX5_encode_46 (Nat.le_of_ble_eq_true rfl) c13 ?_
    refine jCall.mono k (fun o h46_1 k => ?_)
    obtain ⟨e, k⟩ := k
    subst e
    show jWp (d + 1) mX5_encode 49 [(0, jR a0), (2, jR a2), (3, jI 1)] [] h46_1 Q
    refine wp_aload_n 1 dX5_encode_49 rfl ?_
    refine wp_bipush dX5_encode_50 ⟨by decide, by decide⟩ ?_
    have c14 := k.1
    replace k := k.2
    refine wp_callV (ci := 5) (y' := mX7_put) (st := []) [jI 102] rfl rfl rfl fX7_put kX5_35 nX7_put dX5_encode_52 (Nat.le_of_ble_eq_true rfl) c14 ?_
    refine jCall.mono k (fun o h52_1 k => ?_)
    obtain ⟨e, k⟩ := k
    subst e
    show jWp (d + 1) mX5_encode 55 [(0, jR a0), (2, jR a2), (3, jI 1)] [] h52_1 Q
    refine wp_iconst dX5_encode_55 ⟨by decide, by decide⟩ ?_
    refine wp_istore [1, 2, 3, 0] (ls' := [(0, jR a0), (2, jR a2), (3, jI 1), (4, jI 0)]) dX5_encode_56 (by decide) rfl ?_
    refine wp_iconst dX5_encode_58 ⟨by decide, by decide⟩ ?_
    refine wp_istore [1, 2, 3, 4, 0] (ls' := [(0, jR a0), (2, jR a2), (3, jI 1), (4, jI 0), (5, jI 0)]) dX5_encode_59 (by decide) rfl ?_
    exact k
theorem bX5_encode_61 {d : Nat} {h : jH} {Q : jO → jH → Prop} {a0 : Nat} {a2 : Nat} {a3 : Int} {a4 : Int} {a5 : Int} (k : jOK h → j32 a3 → j32 a4 → j32 a5 → ((96 ≤ a5 → hK h a2 = 6 ∧ jCall d mX7_count [jR a2] h (fun o h157 => ∃ v157, o = .inl (some (jI v157)) ∧ jCall d mX2_checkCharacter [jR a2, jI v157] h157 (fun o h160 => ∃ v160, o = .inl (some (jI v160)) ∧ hK h160 a2 = 6 ∧ jCall d mX7_put [jR a2, jI v160] h160 (fun o h163 => o = .inl none ∧ hK h163 a2 = 6 ∧ jCall d mX7_put [jR a2, jI 106] h163 (fun o h169 => o = .inl none ∧ Q (.inl none) h169))))) ∧ (¬ (96 ≤ a5) → hK h a0 = 4 ∧ hK h (hR h 302 a0) = 6 ∧ jCall d mX7_count [jR (hR h 302 a0)] h (fun o h74 => ∃ v74, o = .inl (some (jI v74)) ∧ ((v74 ≤ a4 → hK h74 a2 = 6 ∧ jCall d mX7_count [jR a2] h74 (fun o h157_1 => ∃ v157_1, o = .inl (some (jI v157_1)) ∧ jCall d mX2_checkCharacter [jR a2, jI v157_1] h157_1 (fun o h160_1 => ∃ v160_1, o = .inl (some (jI v160_1)) ∧ hK h160_1 a2 = 6 ∧ jCall d mX7_put [jR a2, jI v160_1] h160_1 (fun o h163_1 => o = .inl none ∧ hK h163_1 a2 = 6 ∧ jCall d mX7_put [jR a2, jI 106] h163_1 (fun o h169_1 => o = .inl none ∧ Q (.inl none) h169_1))))) ∧ (¬ (v74 ≤ a4) → hK h74 a0 = 4 ∧ jCall d mX5_isChangeBest [jR a0, jI a4, jI a3] h74 (fun o h84 => ∃ v84, o = .inl (some (jI v84)) ∧ ((v84 = 0 → hK h84 a0 = 4 ∧ jCall d mX5_straightCharacter [jR a0, jI a4, jI a3] h84 (fun o h123 => ∃ v123, o = .inl (some (jI v123)) ∧ hK h123 a2 = 6 ∧ jCall d mX7_put [jR a2, jI v123] h123 (fun o h126 => o = .inl none ∧ ((a3 = 0 → j32 (a4 + 1) ∧ j32 (a5 + 1) ∧ jWp (d + 1) mX5_encode 61 [(0, jR a0), (2, jR a2), (3, jI a3), (4, jI (a4 + 1)), (5, jI (a5 + 1))] [] h126 Q) ∧ (¬ (a3 = 0) → hK h126 a0 = 4 ∧ jCall d mX5_bytesInC [jR a0, jI a4] h126 (fun o h138 => ∃ v138, o = .inl (some (jI v138)) ∧ j32 (a4 + v138) ∧ j32 (a5 + 1) ∧ jWp (d + 1) mX5_encode 61 [(0, jR a0), (2, jR a2), (3, jI a3), (4, jI (a4 + v138)), (5, jI (a5 + 1))] [] h138 Q)))))) ∧ (¬ (v84 = 0) → ((a3 = 0 → hK h84 a2 = 6 ∧ jCall d mX7_put [jR a2, jI 99] h84 (fun o h102 => o = .inl none ∧ ((a3 ≠ 0 → j32 (a5 + 1) ∧ jWp (d + 1) mX5_encode 61 [(0, jR a0), (2, jR a2), (3, jI 0), (4, jI a4), (5, jI (a5 + 1))] [] h102 Q) ∧ (a3 = 0 → j32 (a5 + 1) ∧ jWp (d + 1) mX5_encode 61 [(0, jR a0), (2, jR a2), (3, jI 1), (4, jI a4), (5, jI (a5 + 1))] [] h102 Q)))) ∧ (¬ (a3 = 0) → hK h84 a2 = 6 ∧ jCall d mX7_put [jR a2, jI 100] h84 (fun o h102_1 => o = .inl none ∧ ((a3 ≠ 0 → j32 (a5 + 1) ∧ jWp (d + 1) mX5_encode 61 [(0, jR a0), (2, jR a2), (3, jI 0), (4, jI a4), (5, jI (a5 + 1))] [] h102_1 Q) ∧ (a3 = 0 → j32 (a5 + 1) ∧ jWp (d + 1) mX5_encode 61 [(0, jR a0), (2, jR a2), (3, jI 1), (4, jI a4), (5, jI (a5 + 1))] [] h102_1 Q)))))))))))))) : jWp (d + 1) mX5_encode 61 [(0, jR a0), (2, jR a2), (3, jI a3), (4, jI a4), (5, jI a5)] [] h Q := by
  refine jw_ok (fun ok q => ?_)
  replace k := k ok (q _ (.tail _ (.tail _ (.head _)))) (q _ (.tail _ (.tail _ (.tail _ (.head _))))) (q _ (.tail _ (.tail _ (.tail _ (.tail _ (.head _))))))
  refine wp_iload 4 dX5_encode_61 rfl ?_
  refine wp_bipush dX5_encode_63 ⟨by decide, by decide⟩ ?_
  refine wp_icmp_ge 154 dX5_encode_65 rfl (fun q => ?_) (fun q => ?_)
  · replace k := k.1 q
    refine wp_aload_n 1 dX5_encode_154 rfl ?_
    refine wp_aload_n 1 dX5_encode_155 rfl ?_
    refine wp_aload_n 1 dX5_encode_156 rfl ?_
    have c1 := k.1
    replace k := k.2
    refine wp_callV (ci := 5) (y' := mX7_count) (st := [jR a2, jR a2]) [] rfl rfl rfl fX7_count kX5_38 nX7_count dX5_encode_157 (Nat.le_of_ble_eq_true rfl) c1 ?_
    refine jCall.mono k (fun o h157 k => ?_)
    obtain ⟨v157, e, k⟩ := k
    subst e
    show jWp (d + 1) mX5_encode 160 [(0, jR a0), (2, jR a2), (3, jI a3), (4, jI a4), (5, jI a5)] [jI v157, jR a2, jR a2] h157 Q
    refine wp_callS (y' := mX2_checkCharacter) (st := [jR a2]) [jR a2, jI v157] rfl fX2_checkCharacter kX5_54 nX2_checkCharacter dX5_encode_160 (Nat.le_of_ble_eq_true rfl) ?_
    refine jCall.mono k (fun o h160 k => ?_)
    obtain ⟨v160, e, k⟩ := k
    subst e
    show jWp (d + 1) mX5_encode 163 [(0, jR a0), (2, jR a2), (3, jI a3), (4, jI a4), (5, jI a5)] [jI v160, jR a2] h160 Q
    have c2 := k.1
    replace k := k.2
    refine wp_callV (ci := 5) (y' := mX7_put) (st := []) [jI v160] rfl rfl rfl fX7_put kX5_35 nX7_put dX5_encode_163 (Nat.le_of_ble_eq_true rfl) c2 ?_
    refine jCall.mono k (fun o h163 k => ?_)
    obtain ⟨e, k⟩ := k
    subst e
    show jWp (d + 1) mX5_encode 166 [(0, jR a0), (2, jR a2), (3, jI a3), (4, jI a4), (5, jI a5)] [] h163 Q
    refine wp_aload_n 1 dX5_encode_166 rfl ?_
    refine wp_bipush dX5_encode_167 ⟨by decide, by decide⟩ ?_
    have c3 := k.1
    replace k := k.2
    refine wp_callV (ci := 5) (y' := mX7_put) (st := []) [jI 106] rfl rfl rfl fX7_put kX5_35 nX7_put dX5_encode_169 (Nat.le_of_ble_eq_true rfl) c3 ?_
    refine jCall.mono k (fun o h169 k => ?_)
    obtain ⟨e, k⟩ := k
    subst e
    show jWp (d + 1) mX5_encode 172 [(0, jR a0), (2, jR a2), (3, jI a3), (4, jI a4), (5, jI a5)] [] h169 Q
    exact wp_return dX5_encode_172 rfl k
  · replace k := k.2 q
    refine wp_iload 3 dX5_encode_68 rfl ?_
    refine wp_aload_n 0 dX5_encode_70 rfl ?_
    have c4 := k.1
    replace k := k.2
    refine wp_getR (ci := 3) (j := 2) rfl (by decide) gX5_23 dX5_encode_71 c4 rfl ?_
    have c5 := k.1
    replace k := k.2
    refine wp_callV (ci := 5) (y' := mX7_count) (st := [jI a4]) [] rfl rfl rfl fX7_count kX5_38 nX7_count dX5_encode_74 (Nat.le_of_ble_eq_true rfl) c5 ?_
    refine jCall.mono k (fun o h74 k => ?_)
    obtain ⟨v74, e, k⟩ := k
    subst e
    show jWp (d + 1) mX5_encode 77 [(0, jR a0), (2, jR a2), (3, jI a3), (4, jI a4), (5, jI a5)] [jI v74, jI a4] h74 Q
    refine wp_icmp_ge 154 dX5_encode_77 rfl (fun q => ?_) (fun q => ?_)
    · replace k := k.1 q
      refine wp_aload_n 1 dX5_encode_154 rfl ?_
      refine wp_aload_n 1 dX5_encode_155 rfl ?_
      refine wp_aload_n 1 dX5_encode_156 rfl ?_
      have c6 := k.1
      replace k := k.2
      refine wp_callV (ci := 5) (y' := mX7_count) (st := [jR a2, jR a2]) [] rfl rfl rfl fX7_count kX5_38 nX7_count dX5_encode_157 (Nat.le_of_ble_eq_true rfl) c6 ?_
      refine jCall.mono k (fun o h157_1 k => ?_)
      obtain ⟨v157_1, e, k⟩ := k
      subst e
      show jWp (d + 1) mX5_encode 160 [(0, jR a0), (2, jR a2), (3, jI a3), (4, jI a4), (5, jI a5)] [jI v157_1, jR a2, jR a2] h157_1 Q
      refine wp_callS (y' := mX2_checkCharacter) (st := [jR a2]) [jR a2, jI v157_1] rfl fX2_checkCharacter kX5_54 nX2_checkCharacter dX5_encode_160 (Nat.le_of_ble_eq_true rfl) ?_
      refine jCall.mono k (fun o h160_1 k => ?_)
      obtain ⟨v160_1, e, k⟩ := k
      subst e
      show jWp (d + 1) mX5_encode 163 [(0, jR a0), (2, jR a2), (3, jI a3), (4, jI a4), (5, jI a5)] [jI v160_1, jR a2] h160_1 Q
      have c7 := k.1
      replace k := k.2
      refine wp_callV (ci := 5) (y' := mX7_put) (st := []) [jI v160_1] rfl rfl rfl fX7_put kX5_35 nX7_put dX5_encode_163 (Nat.le_of_ble_eq_true rfl) c7 ?_
      refine jCall.mono k (fun o h163_1 k => ?_)
      obtain ⟨e, k⟩ := k
      subst e
      show jWp (d + 1) mX5_encode 166 [(0, jR a0), (2, jR a2), (3, jI a3), (4, jI a4), (5, jI a5)] [] h163_1 Q
      refine wp_aload_n 1 dX5_encode_166 rfl ?_
      refine wp_bipush dX5_encode_167 ⟨by decide, by decide⟩ ?_
      have c8 := k.1
      replace k := k.2
      refine wp_callV (ci := 5) (y' := mX7_put) (st := []) [jI 106] rfl rfl rfl fX7_put kX5_35 nX7_put dX5_encode_169 (Nat.le_of_ble_eq_true rfl) c8 ?_
      refine jCall.mono k (fun o h169_1 k => ?_)
      obtain ⟨e, k⟩ := k
      subst e
      show jWp (d + 1) mX5_encode 172 [(0, jR a0), (2, jR a2), (3, jI a3), (4, jI a4), (5, jI a5)] [] h169_1 Q
      exact wp_return dX5_encode_172 rfl k
    · replace k := k.2 q
      refine wp_aload_n 0 dX5_encode_80 rfl ?_
      refine wp_iload 3 dX5_encode_81 rfl ?_
      refine wp_iload_n 2 dX5_encode_83 rfl ?_
      have c9 := k.1
      replace k := k.2
      refine wp_callV (ci := 3) (y' := mX5_isChangeBest) (st := []) [jI a4, jI a3] rfl rfl rfl fX5_isChangeBest kX5_42 nX5_isChangeBest dX5_encode_84 (Nat.le_of_ble_eq_true rfl) c9 ?_
      refine jCall.mono k (fun o h84 k => ?_)
      obtain ⟨v84, e, k⟩ := k
      subst e
      show jWp (d + 1) mX5_encode 87 [(0, jR a0), (2, jR a2), (3, jI a3), (4, jI a4), (5, jI a5)] [jI v84] h84 Q
      refine wp_if_eq 118 dX5_encode_87 rfl (fun q => ?_) (fun q => ?_)
      · replace k := k.1 q
        refine wp_aload_n 1 dX5_encode_118 rfl ?_
        refine wp_aload_n 0 dX5_encode_119 rfl ?_
        refine wp_iload 3 dX5_encode_120 rfl ?_
        refine wp_iload_n 2 dX5_encode_122 rfl ?_
        have c10 := k.1
        replace k := k.2
        refine wp_callV (ci := 3) (y' := mX5_straightCharacter) (st := [jR a2]) [jI a4, jI a3] rfl rfl rfl fX5_straightCharacter kX5_46 nX5_straightCharacter dX5_encode_123 (Nat.le_of_ble_eq_true rfl) c10 ?_
        refine jCall.mono k (fun o h123 k => ?_)
        obtain ⟨v123, e, k⟩ := k
        subst e
        show jWp (d + 1) mX5_encode 126 [(0, jR a0), (2, jR a2), (3, jI a3), (4, jI a4), (5, jI a5)] [jI v123, jR a2] h123 Q
        have c11 := k.1
        replace k := k.2
        refine wp_callV (ci := 5) (y' := mX7_put) (st := []) [jI v123] rfl rfl rfl fX7_put kX5_35 nX7_put dX5_encode_126 (Nat.le_of_ble_eq_true rfl) c11 ?_
        refine jCall.mono k (fun o h126 k => ?_)
        obtain ⟨e, k⟩ := k
        subst e
        show jWp (d + 1) mX5_encode 129 [(0, jR a0), (2, jR a2), (3, jI a3), (4, jI a4), (5, jI a5)] [] h126 Q
        refine wp_iload 3 dX5_encode_129 rfl ?_
        refine wp_iload_n 2 dX5_encode_131 rfl ?_
        refine wp_if_eq 144 dX5_encode_132 rfl (fun q => ?_) (fun q => ?_)
        · replace k := k.1 q
          refine wp_iconst dX5_encode_144 ⟨by decide, by decide⟩ ?_
          have c12 := k.1
          replace k := k.2
          refine wp_iadd dX5_encode_145 c12 ?_
          refine wp_istore [1, 2, 3, 0, 4] (ls' := [(0, jR a0), (2, jR a2), (3, jI a3), (4, jI (a4 + 1)), (5, jI a5)]) dX5_encode_146 (by decide) rfl ?_
          have c13 := k.1
          replace k := k.2
          refine wp_iinc 4 [1, 2, 3, 4, 0] (ls' := [(0, jR a0), (2, jR a2), (3, jI a3), (4, jI (a4 + 1)), (5, jI (a5 + 1))]) dX5_encode_148 rfl c13 ⟨by decide, by decide⟩ (by decide) rfl ?_
          refine wp_goto 61 dX5_encode_151 rfl ?_
          exact k
        · replace k := k.2 q
          refine wp_aload_n 0 dX5_encode_135 rfl ?_
          refine wp_iload 3 dX5_encode_136 rfl ?_
          have c14 := k.1
          replace k := k.2
          refine wp_callV (ci := 3) (y' := mX5_bytesInC) (st := [jI a4]) [jI a4] rfl rfl rfl fX5_bytesInC kX5_50 nX5_bytesInC dX5_encode_138 (Nat.le_of_ble_eq_true rfl) c14 ?_
          refine jCall.mono k (fun o h138 k => ?_)
          obtain ⟨v138, e, k⟩ := k
          subst e
          show jWp (d + 1) mX5_encode 141 [(0, jR a0), (2, jR a2), (3, jI a3), (4, jI a4), (5, jI a5)] [jI v138, jI a4] h138 Q
          refine wp_goto 145 dX5_encode_141 rfl ?_
          have c15 := k.1
          replace k := k.2
          refine wp_iadd dX5_encode_145 c15 ?_
          refine wp_istore [1, 2, 3, 0, 4] (ls' := [(0, jR a0), (2, jR a2), (3, jI a3), (4, jI (a4 + v138)), (5, jI a5)]) dX5_encode_146 (by decide) rfl ?_
          have c16 := k.1
          replace k := k.2
          refine wp_iinc 4 [1, 2, 3, 4, 0] (ls' := [(0, jR a0), (2, jR a2), (3, jI a3), (4, jI (a4 + v138)), (5, jI (a5 + 1))]) dX5_encode_148 rfl c16 ⟨by decide, by decide⟩ (by decide) rfl ?_
          refine wp_goto 61 dX5_encode_151 rfl ?_
          exact k
      · replace k := k.2 q
        refine wp_aload_n 1 dX5_encode_90 rfl ?_
        refine wp_iload_n 2 dX5_encode_91 rfl ?_
        refine wp_if_eq 100 dX5_encode_92 rfl (fun q => ?_) (fun q => ?_)
        · replace k := k.1 q
          refine wp_bipush dX5_encode_100 ⟨by decide, by decide⟩ ?_
          have c17 := k.1
          replace k := k.2
          refine wp_callV (ci := 5) (y' := mX7_put) (st := []) [jI 99] rfl rfl rfl fX7_put kX5_35 nX7_put dX5_encode_102 (Nat.le_of_ble_eq_true rfl) c17 ?_
          refine jCall.mono k (fun o h102 k => ?_)
          obtain ⟨e, k⟩ := k
          subst e
          show jWp (d + 1) mX5_encode 105 [(0, jR a0), (2, jR a2), (3, jI a3), (4, jI a4), (5, jI a5)] [] h102 Q
          refine wp_iload_n 2 dX5_encode_105 rfl ?_
          refine wp_if_ne 113 dX5_encode_106 rfl (fun q => ?_) (fun q => ?_)
          · replace k := k.1 q
            refine wp_iconst dX5_encode_113 ⟨by decide, by decide⟩ ?_
            refine wp_istore_n [1, 2, 0, 3, 4] (ls' := [(0, jR a0), (2, jR a2), (3, jI 0), (4, jI a4), (5, jI a5)]) dX5_encode_114 (by decide) rfl ?_
            refine wp_goto 148 dX5_encode_115 rfl ?_
            have c18 := k.1
            replace k := k.2
            refine wp_iinc 4 [1, 2, 3, 4, 0] (ls' := [(0, jR a0), (2, jR a2), (3, jI 0), (4, jI a4), (5, jI (a5 + 1))]) dX5_encode_148 rfl c18 ⟨by decide, by decide⟩ (by decide) rfl ?_
            refine wp_goto 61 dX5_encode_151 rfl ?_
            exact k
          · replace k := k.2 q
            refine wp_iconst dX5_encode_109 ⟨by decide, by decide⟩ ?_
            refine wp_goto 114 dX5_encode_110 rfl ?_
            refine wp_istore_n [1, 2, 0, 3, 4] (ls' := [(0, jR a0), (2, jR a2), (3, jI 1), (4, jI a4), (5, jI a5)]) dX5_encode_114 (by decide) rfl ?_
            refine wp_goto 148 dX5_encode_115 rfl ?_
            have c19 := k.1
            replace k := k.2
            refine wp_iinc 4 [1, 2, 3, 4, 0] (ls' := [(0, jR a0), (2, jR a2), (3, jI 1), (4, jI a4), (5, jI (a5 + 1))]) dX5_encode_148 rfl c19 ⟨by decide, by decide⟩ (by decide) rfl ?_
            refine wp_goto 61 dX5_encode_151 rfl ?_
            exact k
        · replace k := k.2 q
          refine wp_bipush dX5_encode_95 ⟨by decide, by decide⟩ ?_
          refine wp_goto 102 dX5_encode_97 rfl ?_
          have c20 := k.1
          replace k := k.2
          refine wp_callV (ci := 5) (y' := mX7_put) (st := []) [jI 100] rfl rfl rfl fX7_put kX5_35 nX7_put dX5_encode_102 (Nat.le_of_ble_eq_true rfl) c20 ?_
          refine jCall.mono k (fun o h102_1 k => ?_)
          obtain ⟨e, k⟩ := k
          subst e
          show jWp (d + 1) mX5_encode 105 [(0, jR a0), (2, jR a2), (3, jI a3), (4, jI a4), (5, jI a5)] [] h102_1 Q
          refine wp_iload_n 2 dX5_encode_105 rfl ?_
          refine wp_if_ne 113 dX5_encode_106 rfl (fun q => ?_) (fun q => ?_)
          · replace k := k.1 q
            refine wp_iconst dX5_encode_113 ⟨by decide, by decide⟩ ?_
            refine wp_istore_n [1, 2, 0, 3, 4] (ls' := [(0, jR a0), (2, jR a2), (3, jI 0), (4, jI a4), (5, jI a5)]) dX5_encode_114 (by decide) rfl ?_
            refine wp_goto 148 dX5_encode_115 rfl ?_
            have c21 := k.1
            replace k := k.2
            refine wp_iinc 4 [1, 2, 3, 4, 0] (ls' := [(0, jR a0), (2, jR a2), (3, jI 0), (4, jI a4), (5, jI (a5 + 1))]) dX5_encode_148 rfl c21 ⟨by decide, by decide⟩ (by decide) rfl ?_
            refine wp_goto 61 dX5_encode_151 rfl ?_
            exact k
          · replace k := k.2 q
            refine wp_iconst dX5_encode_109 ⟨by decide, by decide⟩ ?_
            refine wp_goto 114 dX5_encode_110 rfl ?_
            refine wp_istore_n [1, 2, 0, 3, 4] (ls' := [(0, jR a0), (2, jR a2), (3, jI 1), (4, jI a4), (5, jI a5)]) dX5_encode_114 (by decide) rfl ?_
            refine wp_goto 148 dX5_encode_115 rfl ?_
            have c22 := k.1
            replace k := k.2
            refine wp_iinc 4 [1, 2, 3, 4, 0] (ls' := [(0, jR a0), (2, jR a2), (3, jI 1), (4, jI a4), (5, jI (a5 + 1))]) dX5_encode_148 rfl c22 ⟨by decide, by decide⟩ (by decide) rfl ?_
            refine wp_goto 61 dX5_encode_151 rfl ?_
            exact k
theorem bX5_countBackwards {d : Nat} {h : jH} {Q : jO → jH → Prop} {a0 : Nat} (k : jOK h → hK h a0 = 4 ∧ hK h (hR h 302 a0) = 6 ∧ jCall d mX7_count [jR (hR h 302 a0)] h (fun o h4 => ∃ v4, o = .inl (some (jI v4)) ∧ jCall d mJ9_min_7cf53 [jI v4, jI 48] h4 (fun o h9 => ∃ v9, o = .inl (some (jI v9)) ∧ hK h9 a0 = 4 ∧ hK h9 (hR h9 300 a0) = 10 ∧ 0 ≤ v9 ∧ v9 < hN h9 (hR h9 300 a0) ∧ hK h9 (hR h9 301 a0) = 10 ∧ v9 < hN h9 (hR h9 301 a0) ∧ j32 (v9 - 1) ∧ jWp (d + 1) mX5_countBackwards 31 [(0, jR a0), (2, jI (v9 - 1))] [] (sA (sA h9 (hR h9 300 a0) v9 0) (hR h9 301 a0) v9 0) Q))) : jCall (d + 1) mX5_countBackwards [jR a0] h Q := by
  refine jCall_of plX5 (Nat.le_of_ble_eq_true rfl) ?_
  show jWp (d + 1) mX5_countBackwards 0 [(0, jR a0)] [] h Q
  refine jw_ok (fun ok q => ?_)
  replace k := k ok 
  refine wp_aload_n 0 dX5_countBackwards_0 rfl ?_
  have c1 := k.1
  replace k := k.2
  refine wp_getR (ci := 3) (j := 2) rfl (by decide) gX5_23 dX5_countBackwards_1 c1 rfl ?_
  have c2 := k.1
  replace k := k.2
  refine wp_callV (ci := 5) (y' := mX7_count) (st := []) [] rfl rfl rfl fX7_count kX5_38 nX7_count dX5_countBackwards_4 (Nat.le_of_ble_eq_true rfl) c2 ?_
  refine jCall.mono k (fun o h4 k => ?_)
  obtain ⟨v4, e, k⟩ := k
  subst e
  show jWp (d + 1) mX5_countBackwards 7 [(0, jR a0)] [jI v4] h4 Q
  refine wp_bipush dX5_countBackwards_7 ⟨by decide, by decide⟩ ?_
  refine wp_callS (y' := mJ9_min_7cf53) (st := []) [jI v4, jI 48] rfl fJ9_min_7cf53 kX5_58 nJ9_min_7cf53 dX5_countBackwards_9 (Nat.le_of_ble_eq_true rfl) ?_
  refine jCall.mono k (fun o h9 k => ?_)
  obtain ⟨v9, e, k⟩ := k
  subst e
  show jWp (d + 1) mX5_countBackwards 12 [(0, jR a0)] [jI v9] h9 Q
  refine wp_istore_n [1, 0] (ls' := [(0, jR a0), (1, jI v9)]) dX5_countBackwards_12 (by decide) rfl ?_
  refine wp_aload_n 0 dX5_countBackwards_13 rfl ?_
  have c3 := k.1
  replace k := k.2
  refine wp_getR (ci := 3) (j := 0) rfl (by decide) gX5_9 dX5_countBackwards_14 c3 rfl ?_
  refine wp_iload_n 1 dX5_countBackwards_17 rfl ?_
  refine wp_iconst dX5_countBackwards_18 ⟨by decide, by decide⟩ ?_
  have c4 := k.1
  replace k := k.2
  have c5 := k.1
  replace k := k.2
  have c6 := k.1
  replace k := k.2
  refine wp_iastore dX5_countBackwards_19 c4 c5 c6 ?_
  refine wp_aload_n 0 dX5_countBackwards_20 rfl ?_
  refine wp_getR (ci := 3) (j := 1) rfl (by decide) gX5_15 dX5_countBackwards_21 c3 rfl ?_
  refine wp_iload_n 1 dX5_countBackwards_24 rfl ?_
  refine wp_iconst dX5_countBackwards_25 ⟨by decide, by decide⟩ ?_
  have c7 := k.1
  replace k := k.2
  have c8 := k.1
  replace k := k.2
  refine wp_iastore dX5_countBackwards_26 c7 c5 c8 ?_
  refine wp_iload_n 1 dX5_countBackwards_27 rfl ?_
  refine wp_iconst dX5_countBackwards_28 ⟨by decide, by decide⟩ ?_
  have c9 := k.1
  replace k := k.2
  refine wp_isub dX5_countBackwards_29 c9 ?_
  refine wp_istore_n [1, 0] (ls' := [(0, jR a0), (2, jI (v9 - 1))]) dX5_countBackwards_30 (by decide) rfl ?_
  exact k
theorem bX5_countBackwards_31 {d : Nat} {h : jH} {Q : jO → jH → Prop} {a0 : Nat} {a2 : Int} (k : jOK h → j32 a2 → ((a2 < 0 → Q (.inl none) h) ∧ (¬ (a2 < 0) → hK h a0 = 4 ∧ jCall d mX5_straightCost [jR a0, jI a2, jI 0] h (fun o h38 => ∃ v38, o = .inl (some (jI v38)) ∧ hK h38 a0 = 4 ∧ jCall d mX5_straightCost [jR a0, jI a2, jI 1] h38 (fun o h45 => ∃ v45, o = .inl (some (jI v45)) ∧ hK h45 a0 = 4 ∧ j32 (v45 + 1) ∧ jCall d mJ9_min_7cf53 [jI v38, jI (v45 + 1)] h45 (fun o h60 => ∃ v60, o = .inl (some (jI v60)) ∧ hK h60 (hR h45 300 a0) = 10 ∧ 0 ≤ a2 ∧ a2 < hN h60 (hR h45 300 a0) ∧ hK h60 a0 = 4 ∧ j32 (v38 + 1) ∧ jCall d mJ9_min_7cf53 [jI v45, jI (v38 + 1)] (sA h60 (hR h45 300 a0) a2 v60) (fun o h74 => ∃ v74, o = .inl (some (jI v74)) ∧ hK h74 (hR h60 301 a0) = 10 ∧ 0 ≤ a2 ∧ a2 < hN h74 (hR h60 301 a0) ∧ j32 (a2 + (-1)) ∧ jWp (d + 1) mX5_countBackwards 31 [(0, jR a0), (2, jI (a2 + (-1)))] [] (sA h74 (hR h60 301 a0) a2 v74) Q))))))) : jWp (d + 1) mX5_countBackwards 31 [(0, jR a0), (2, jI a2)] [] h Q := by
  refine jw_ok (fun ok q => ?_)
  replace k := k ok (q _ (.tail _ (.head _)))
  refine wp_iload_n 1 dX5_countBackwards_31 rfl ?_
  refine wp_if_lt 84 dX5_countBackwards_32 rfl (fun q => ?_) (fun q => ?_)
  · replace k := k.1 q
    exact wp_return dX5_countBackwards_84 rfl k
  · replace k := k.2 q
    refine wp_aload_n 0 dX5_countBackwards_35 rfl ?_
    refine wp_iload_n 1 dX5_countBackwards_36 rfl ?_
    refine wp_iconst dX5_countBackwards_37 ⟨by decide, by decide⟩ ?_
    have c1 := k.1
    replace k := k.2
    refine wp_callV (ci := 3) (y' := mX5_straightCost) (st := []) [jI a2, jI 0] rfl rfl rfl fX5_straightCost kX5_64 nX5_straightCost dX5_countBackwards_38 (Nat.le_of_ble_eq_true rfl) c1 ?_
    refine jCall.mono k (fun o h38 k => ?_)
    obtain ⟨v38, e, k⟩ := k
    subst e
    show jWp (d + 1) mX5_countBackwards 41 [(0, jR a0), (2, jI a2)] [jI v38] h38 Q
    refine wp_istore_n [1, 2, 0] (ls' := [(0, jR a0), (2, jI a2), (3, jI v38)]) dX5_countBackwards_41 (by decide) rfl ?_
    refine wp_aload_n 0 dX5_countBackwards_42 rfl ?_
    refine wp_iload_n 1 dX5_countBackwards_43 rfl ?_
    refine wp_iconst dX5_countBackwards_44 ⟨by decide, by decide⟩ ?_
    have c2 := k.1
    replace k := k.2
    refine wp_callV (ci := 3) (y' := mX5_straightCost) (st := []) [jI a2, jI 1] rfl rfl rfl fX5_straightCost kX5_64 nX5_straightCost dX5_countBackwards_45 (Nat.le_of_ble_eq_true rfl) c2 ?_
    refine jCall.mono k (fun o h45 k => ?_)
    obtain ⟨v45, e, k⟩ := k
    subst e
    show jWp (d + 1) mX5_countBackwards 48 [(0, jR a0), (2, jI a2), (3, jI v38)] [jI v45] h45 Q
    refine wp_istore [1, 2, 3, 0] (ls' := [(0, jR a0), (2, jI a2), (3, jI v38), (4, jI v45)]) dX5_countBackwards_48 (by decide) rfl ?_
    refine wp_aload_n 0 dX5_countBackwards_50 rfl ?_
    have c3 := k.1
    replace k := k.2
    refine wp_getR (ci := 3) (j := 0) rfl (by decide) gX5_9 dX5_countBackwards_51 c3 rfl ?_
    refine wp_iload_n 1 dX5_countBackwards_54 rfl ?_
    refine wp_iload_n 2 dX5_countBackwards_55 rfl ?_
    refine wp_iload 3 dX5_countBackwards_56 rfl ?_
    refine wp_iconst dX5_countBackwards_58 ⟨by decide, by decide⟩ ?_
    have c4 := k.1
    replace k := k.2
    refine wp_iadd dX5_countBackwards_59 c4 ?_
    refine wp_callS (y' := mJ9_min_7cf53) (st := [jI a2, jR (hR h45 300 a0)]) [jI v38, jI (v45 + 1)] rfl fJ9_min_7cf53 kX5_58 nJ9_min_7cf53 dX5_countBackwards_60 (Nat.le_of_ble_eq_true rfl) ?_
    refine jCall.mono k (fun o h60 k => ?_)
    obtain ⟨v60, e, k⟩ := k
    subst e
    show jWp (d + 1) mX5_countBackwards 63 [(0, jR a0), (2, jI a2), (3, jI v38), (4, jI v45)] [jI v60, jI a2, jR (hR h45 300 a0)] h60 Q
    have c5 := k.1
    replace k := k.2
    have c6 := k.1
    replace k := k.2
    have c7 := k.1
    replace k := k.2
    refine wp_iastore dX5_countBackwards_63 c5 c6 c7 ?_
    refine wp_aload_n 0 dX5_countBackwards_64 rfl ?_
    have c8 := k.1
    replace k := k.2
    refine wp_getR (ci := 3) (j := 1) rfl (by decide) gX5_15 dX5_countBackwards_65 c8 rfl ?_
    refine wp_iload_n 1 dX5_countBackwards_68 rfl ?_
    refine wp_iload 3 dX5_countBackwards_69 rfl ?_
    refine wp_iload_n 2 dX5_countBackwards_71 rfl ?_
    refine wp_iconst dX5_countBackwards_72 ⟨by decide, by decide⟩ ?_
    have c9 := k.1
    replace k := k.2
    refine wp_iadd dX5_countBackwards_73 c9 ?_
    refine wp_callS (y' := mJ9_min_7cf53) (st := [jI a2, jR (hR h60 301 a0)]) [jI v45, jI (v38 + 1)] rfl fJ9_min_7cf53 kX5_58 nJ9_min_7cf53 dX5_countBackwards_74 (Nat.le_of_ble_eq_true rfl) ?_
    refine jCall.mono k (fun o h74 k => ?_)
    obtain ⟨v74, e, k⟩ := k
    subst e
    show jWp (d + 1) mX5_countBackwards 77 [(0, jR a0), (2, jI a2), (3, jI v38), (4, jI v45)] [jI v74, jI a2, jR (hR h60 301 a0)] h74 Q
    have c10 := k.1
    replace k := k.2
    have c11 := k.1
    replace k := k.2
    have c12 := k.1
    replace k := k.2
    refine wp_iastore dX5_countBackwards_77 c10 c11 c12 ?_
    have c13 := k.1
    replace k := k.2
    refine wp_iinc 1 [1, 0] (ls' := [(0, jR a0), (2, jI (a2 + (-1)))]) dX5_countBackwards_78 rfl c13 ⟨by decide, by decide⟩ (by decide) rfl ?_
    refine wp_goto 31 dX5_countBackwards_81 rfl ?_
    exact k
theorem bX5_straightCost {d : Nat} {h : jH} {Q : jO → jH → Prop} {a0 : Nat} {a1 : Int} {a2 : Int} (k : jOK h → j32 a1 → j32 a2 → ((a2 ≠ 0 → hK h a0 = 4 ∧ jCall d mX5_bytesInC [jR a0, jI a1] h (fun o h17 => ∃ v17, o = .inl (some (jI v17)) ∧ ((v17 ≠ 0 → j32 (a1 + v17) ∧ hK h17 a0 = 4 ∧ jCall d mX5_costAt [jR a0, jI (a1 + v17), jI 1] h17 (fun o h36 => ∃ v36, o = .inl (some (jI v36)) ∧ j32 (1 + v36) ∧ Q (.inl (some (jI (1 + v36)))) h36)) ∧ (v17 = 0 → Q (.inl (some (jI 1000000))) h17)))) ∧ (a2 = 0 → j32 (a1 + 1) ∧ hK h a0 = 4 ∧ jCall d mX5_costAt [jR a0, jI (a1 + 1), jI 0] h (fun o h10 => ∃ v10, o = .inl (some (jI v10)) ∧ j32 (1 + v10) ∧ Q (.inl (some (jI (1 + v10)))) h10)))) : jCall (d + 1) mX5_straightCost [jR a0, jI a1, jI a2] h Q := by
  refine jCall_of plX5 (Nat.le_of_ble_eq_true rfl) ?_
  show jWp (d + 1) mX5_straightCost 0 [(0, jR a0), (1, jI a1), (2, jI a2)] [] h Q
  refine jw_ok (fun ok q => ?_)
  replace k := k ok (q _ (.tail _ (.head _))) (q _ (.tail _ (.tail _ (.head _))))
  refine wp_iload_n 2 dX5_straightCost_0 rfl ?_
  refine wp_if_ne 15 dX5_straightCost_1 rfl (fun q => ?_) (fun q => ?_)
  · replace k := k.1 q
    refine wp_aload_n 0 dX5_straightCost_15 rfl ?_
    refine wp_iload_n 1 dX5_straightCost_16 rfl ?_
    have c1 := k.1
    replace k := k.2
    refine wp_callV (ci := 3) (y' := mX5_bytesInC) (st := []) [jI a1] rfl rfl rfl fX5_bytesInC kX5_50 nX5_bytesInC dX5_straightCost_17 (Nat.le_of_ble_eq_true rfl) c1 ?_
    refine jCall.mono k (fun o h17 k => ?_)
    obtain ⟨v17, e, k⟩ := k
    subst e
    show jWp (d + 1) mX5_straightCost 20 [(0, jR a0), (1, jI a1), (2, jI a2)] [jI v17] h17 Q
    refine wp_istore_n [1, 2, 0] (ls' := [(0, jR a0), (1, jI a1), (3, jI v17)]) dX5_straightCost_20 (by decide) rfl ?_
    refine wp_iload_n 2 dX5_straightCost_21 rfl ?_
    refine wp_if_ne 30 dX5_straightCost_22 rfl (fun q => ?_) (fun q => ?_)
    · replace k := k.1 q
      refine wp_iconst dX5_straightCost_30 ⟨by decide, by decide⟩ ?_
      refine wp_aload_n 0 dX5_straightCost_31 rfl ?_
      refine wp_iload_n 1 dX5_straightCost_32 rfl ?_
      refine wp_iload_n 2 dX5_straightCost_33 rfl ?_
      have c2 := k.1
      replace k := k.2
      refine wp_iadd dX5_straightCost_34 c2 ?_
      refine wp_iconst dX5_straightCost_35 ⟨by decide, by decide⟩ ?_
      have c3 := k.1
      replace k := k.2
      refine wp_callV (ci := 3) (y' := mX5_costAt) (st := [jI 1]) [jI (a1 + v17), jI 1] rfl rfl rfl fX5_costAt kX5_67 nX5_costAt dX5_straightCost_36 (Nat.le_of_ble_eq_true rfl) c3 ?_
      refine jCall.mono k (fun o h36 k => ?_)
      obtain ⟨v36, e, k⟩ := k
      subst e
      show jWp (d + 1) mX5_straightCost 39 [(0, jR a0), (1, jI a1), (3, jI v17)] [jI v36, jI 1] h36 Q
      have c4 := k.1
      replace k := k.2
      refine wp_iadd dX5_straightCost_39 c4 ?_
      exact wp_iret dX5_straightCost_40 rfl k
    · replace k := k.2 q
      refine wp_ldc dX5_straightCost_25 eX5_70 rfl ⟨by decide, by decide⟩ ?_
      refine wp_goto 40 dX5_straightCost_27 rfl ?_
      exact wp_iret dX5_straightCost_40 rfl k
  · replace k := k.2 q
    refine wp_iconst dX5_straightCost_4 ⟨by decide, by decide⟩ ?_
    refine wp_aload_n 0 dX5_straightCost_5 rfl ?_
    refine wp_iload_n 1 dX5_straightCost_6 rfl ?_
    refine wp_iconst dX5_straightCost_7 ⟨by decide, by decide⟩ ?_
    have c5 := k.1
    replace k := k.2
    refine wp_iadd dX5_straightCost_8 c5 ?_
    refine wp_iconst dX5_straightCost_9 ⟨by decide, by decide⟩ ?_
    have c6 := k.1
    replace k := k.2
    refine wp_callV (ci := 3) (y' := mX5_costAt) (st := [jI 1]) [jI (a1 + 1), jI 0] rfl rfl rfl fX5_costAt kX5_67 nX5_costAt dX5_straightCost_10 (Nat.le_of_ble_eq_true rfl) c6 ?_
    refine jCall.mono k (fun o h10 k => ?_)
    obtain ⟨v10, e, k⟩ := k
    subst e
    show jWp (d + 1) mX5_straightCost 13 [(0, jR a0), (1, jI a1), (2, jI a2)] [jI v10, jI 1] h10 Q
    have c7 := k.1
    replace k := k.2
    refine wp_iadd dX5_straightCost_13 c7 ?_
    exact wp_iret dX5_straightCost_14 rfl k
theorem bX5_costAt {d : Nat} {h : jH} {Q : jO → jH → Prop} {a0 : Nat} {a1 : Int} {a2 : Int} (k : jOK h → j32 a1 → j32 a2 → ((a1 < 0 → Q (.inl (some (jI 1000000))) h) ∧ (¬ (a1 < 0) → hK h a0 = 4 ∧ hK h (hR h 302 a0) = 6 ∧ jCall d mX7_count [jR (hR h 302 a0)] h (fun o h9 => ∃ v9, o = .inl (some (jI v9)) ∧ ((v9 < a1 → Q (.inl (some (jI 1000000))) h9) ∧ (¬ (v9 < a1) → hK h9 a0 = 4 ∧ hK h9 (hR h9 300 a0) = 10 ∧ (0 ≤ (hN h9 (hR h9 300 a0)) → ((a1 < (hN h9 (hR h9 300 a0)) → ((a2 = 0 → 0 ≤ a1 ∧ a1 < hN h9 (hR h9 300 a0) ∧ (j32 (hA h9 (hR h9 300 a0) a1) → Q (.inl (some (jI (hA h9 (hR h9 300 a0) a1)))) h9)) ∧ (¬ (a2 = 0) → hK h9 (hR h9 301 a0) = 10 ∧ 0 ≤ a1 ∧ a1 < hN h9 (hR h9 301 a0) ∧ (j32 (hA h9 (hR h9 301 a0) a1) → Q (.inl (some (jI (hA h9 (hR h9 301 a0) a1)))) h9)))) ∧ (¬ (a1 < (hN h9 (hR h9 300 a0))) → Q (.inl (some (jI 1000000))) h9))))))))) : jCall (d + 1) mX5_costAt [jR a0, jI a1, jI a2] h Q := by
  refine jCall_of plX5 (Nat.le_of_ble_eq_true rfl) ?_
  show jWp (d + 1) mX5_costAt 0 [(0, jR a0), (1, jI a1), (2, jI a2)] [] h Q
  refine jw_ok (fun ok q => ?_)
  replace k := k ok (q _ (.tail _ (.head _))) (q _ (.tail _ (.tail _ (.head _))))
  refine wp_iload_n 1 dX5_costAt_0 rfl ?_
  refine wp_if_lt 24 dX5_costAt_1 rfl (fun q => ?_) (fun q => ?_)
  · replace k := k.1 q
    refine wp_ldc dX5_costAt_24 eX5_70 rfl ⟨by decide, by decide⟩ ?_
    exact wp_iret dX5_costAt_26 rfl k
  · replace k := k.2 q
    refine wp_iload_n 1 dX5_costAt_4 rfl ?_
    refine wp_aload_n 0 dX5_costAt_5 rfl ?_
    have c1 := k.1
    replace k := k.2
    refine wp_getR (ci := 3) (j := 2) rfl (by decide) gX5_23 dX5_costAt_6 c1 rfl ?_
    have c2 := k.1
    replace k := k.2
    refine wp_callV (ci := 5) (y' := mX7_count) (st := [jI a1]) [] rfl rfl rfl fX7_count kX5_38 nX7_count dX5_costAt_9 (Nat.le_of_ble_eq_true rfl) c2 ?_
    refine jCall.mono k (fun o h9 k => ?_)
    obtain ⟨v9, e, k⟩ := k
    subst e
    show jWp (d + 1) mX5_costAt 12 [(0, jR a0), (1, jI a1), (2, jI a2)] [jI v9, jI a1] h9 Q
    refine wp_icmp_gt 24 dX5_costAt_12 rfl (fun q => ?_) (fun q => ?_)
    · replace k := k.1 q
      refine wp_ldc dX5_costAt_24 eX5_70 rfl ⟨by decide, by decide⟩ ?_
      exact wp_iret dX5_costAt_26 rfl k
    · replace k := k.2 q
      refine wp_iload_n 1 dX5_costAt_15 rfl ?_
      refine wp_aload_n 0 dX5_costAt_16 rfl ?_
      have c3 := k.1
      replace k := k.2
      refine wp_getR (ci := 3) (j := 0) rfl (by decide) gX5_9 dX5_costAt_17 c3 rfl ?_
      have c4 := k.1
      replace k := k.2
      refine wp_alen (n := 10) dX5_costAt_20 c4 ⟨by decide, by decide⟩ (fun q q9 => ?_)
      have f5 := q
      replace k := k q
      refine wp_icmp_lt 27 dX5_costAt_21 rfl (fun q => ?_) (fun q => ?_)
      · replace k := k.1 q
        refine wp_iload_n 2 dX5_costAt_27 rfl ?_
        refine wp_if_eq 40 dX5_costAt_28 rfl (fun q => ?_) (fun q => ?_)
        · replace k := k.1 q
          refine wp_aload_n 0 dX5_costAt_40 rfl ?_
          refine wp_getR (ci := 3) (j := 0) rfl (by decide) gX5_9 dX5_costAt_41 c3 rfl ?_
          refine wp_iload_n 1 dX5_costAt_44 rfl ?_
          have c6 := k.1
          replace k := k.2
          have c7 := k.1
          replace k := k.2
          refine wp_iaload dX5_costAt_45 c4 c6 c7 (fun q => ?_)
          have f8 := q
          replace k := k q
          exact wp_iret dX5_costAt_46 rfl k
        · replace k := k.2 q
          refine wp_aload_n 0 dX5_costAt_31 rfl ?_
          refine wp_getR (ci := 3) (j := 1) rfl (by decide) gX5_15 dX5_costAt_32 c3 rfl ?_
          refine wp_iload_n 1 dX5_costAt_35 rfl ?_
          have c9 := k.1
          replace k := k.2
          have c10 := k.1
          replace k := k.2
          have c11 := k.1
          replace k := k.2
          refine wp_iaload dX5_costAt_36 c9 c10 c11 (fun q => ?_)
          have f12 := q
          replace k := k q
          refine wp_goto 46 dX5_costAt_37 rfl ?_
          exact wp_iret dX5_costAt_46 rfl k
      · replace k := k.2 q
        refine wp_ldc dX5_costAt_24 eX5_70 rfl ⟨by decide, by decide⟩ ?_
        exact wp_iret dX5_costAt_26 rfl k
theorem bX5_bytesInC {d : Nat} {h : jH} {Q : jO → jH → Prop} {a0 : Nat} {a1 : Int} (k : jOK h → j32 a1 → hK h a0 = 4 ∧ hK h (hR h 302 a0) = 6 ∧ jCall d mX7_at [jR (hR h 302 a0), jI a1] h (fun o h5 => ∃ v5, o = .inl (some (jI v5)) ∧ ((v5 ≠ 29 → hK h5 a0 = 4 ∧ hK h5 (hR h5 302 a0) = 6 ∧ jCall d mX7_areDigits [jR (hR h5 302 a0), jI a1, jI 2] h5 (fun o h21 => ∃ v21, o = .inl (some (jI v21)) ∧ ((v21 = 0 → Q (.inl (some (jI 0))) h21) ∧ (¬ (v21 = 0) → Q (.inl (some (jI 2))) h21)))) ∧ (v5 = 29 → Q (.inl (some (jI 1))) h5)))) : jCall (d + 1) mX5_bytesInC [jR a0, jI a1] h Q := by
  refine jCall_of plX5 (Nat.le_of_ble_eq_true rfl) ?_
  show jWp (d + 1) mX5_bytesInC 0 [(0, jR a0), (1, jI a1)] [] h Q
  refine jw_ok (fun ok q => ?_)
  replace k := k ok (q _ (.tail _ (.head _)))
  refine wp_aload_n 0 dX5_bytesInC_0 rfl ?_
  have c1 := k.1
  replace k := k.2
  refine wp_getR (ci := 3) (j := 2) rfl (by decide) gX5_23 dX5_bytesInC_1 c1 rfl ?_
  refine wp_iload_n 1 dX5_bytesInC_4 rfl ?_
  have c2 := k.1
  replace k := k.2
  refine wp_callV (ci := 5) (y' := mX7_at) (st := []) [jI a1] rfl rfl rfl fX7_at kX5_71 nX7_at dX5_bytesInC_5 (Nat.le_of_ble_eq_true rfl) c2 ?_
  refine jCall.mono k (fun o h5 k => ?_)
  obtain ⟨v5, e, k⟩ := k
  subst e
  show jWp (d + 1) mX5_bytesInC 8 [(0, jR a0), (1, jI a1)] [jI v5] h5 Q
  refine wp_bipush dX5_bytesInC_8 ⟨by decide, by decide⟩ ?_
  refine wp_icmp_ne 15 dX5_bytesInC_10 rfl (fun q => ?_) (fun q => ?_)
  · replace k := k.1 q
    refine wp_aload_n 0 dX5_bytesInC_15 rfl ?_
    have c3 := k.1
    replace k := k.2
    refine wp_getR (ci := 3) (j := 2) rfl (by decide) gX5_23 dX5_bytesInC_16 c3 rfl ?_
    refine wp_iload_n 1 dX5_bytesInC_19 rfl ?_
    refine wp_iconst dX5_bytesInC_20 ⟨by decide, by decide⟩ ?_
    have c4 := k.1
    replace k := k.2
    refine wp_callV (ci := 5) (y' := mX7_areDigits) (st := []) [jI a1, jI 2] rfl rfl rfl fX7_areDigits kX5_74 nX7_areDigits dX5_bytesInC_21 (Nat.le_of_ble_eq_true rfl) c4 ?_
    refine jCall.mono k (fun o h21 k => ?_)
    obtain ⟨v21, e, k⟩ := k
    subst e
    show jWp (d + 1) mX5_bytesInC 24 [(0, jR a0), (1, jI a1)] [jI v21] h21 Q
    refine wp_if_eq 31 dX5_bytesInC_24 rfl (fun q => ?_) (fun q => ?_)
    · replace k := k.1 q
      refine wp_iconst dX5_bytesInC_31 ⟨by decide, by decide⟩ ?_
      exact wp_iret dX5_bytesInC_32 rfl k
    · replace k := k.2 q
      refine wp_iconst dX5_bytesInC_27 ⟨by decide, by decide⟩ ?_
      refine wp_goto 32 dX5_bytesInC_28 rfl ?_
      exact wp_iret dX5_bytesInC_32 rfl k
  · replace k := k.2 q
    refine wp_iconst dX5_bytesInC_13 ⟨by decide, by decide⟩ ?_
    exact wp_iret dX5_bytesInC_14 rfl k
theorem bX5_straightCharacter {d : Nat} {h : jH} {Q : jO → jH → Prop} {a0 : Nat} {a1 : Int} {a2 : Int} (k : jOK h → j32 a1 → j32 a2 → hK h a0 = 4 ∧ hK h (hR h 302 a0) = 6 ∧ jCall d mX7_at [jR (hR h 302 a0), jI a1] h (fun o h5 => ∃ v5, o = .inl (some (jI v5)) ∧ ((v5 ≠ 29 → ((a2 = 0 → hK h5 a0 = 4 ∧ hK h5 (hR h5 302 a0) = 6 ∧ jCall d mX7_at [jR (hR h5 302 a0), jI a1] h5 (fun o h36 => ∃ v36, o = .inl (some (jI v36)) ∧ j32 (v36 - 32) ∧ Q (.inl (some (jI (v36 - 32)))) h36)) ∧ (¬ (a2 = 0) → hK h5 a0 = 4 ∧ hK h5 (hR h5 302 a0) = 6 ∧ jCall d mX7_twoDigits [jR (hR h5 302 a0), jI a1] h5 (fun o h25 => ∃ v25, o = .inl (some (jI v25)) ∧ Q (.inl (some (jI v25))) h25)))) ∧ (v5 = 29 → Q (.inl (some (jI 102))) h5)))) : jCall (d + 1) mX5_straightCharacter [jR a0, jI a1, jI a2] h Q := by
  refine jCall_of plX5 (Nat.le_of_ble_eq_true rfl) ?_
  show jWp (d + 1) mX5_straightCharacter 0 [(0, jR a0), (1, jI a1), (2, jI a2)] [] h Q
  refine jw_ok (fun ok q => ?_)
  replace k := k ok (q _ (.tail _ (.head _))) (q _ (.tail _ (.tail _ (.head _))))
  refine wp_aload_n 0 dX5_straightCharacter_0 rfl ?_
  have c1 := k.1
  replace k := k.2
  refine wp_getR (ci := 3) (j := 2) rfl (by decide) gX5_23 dX5_straightCharacter_1 c1 rfl ?_
  refine wp_iload_n 1 dX5_straightCharacter_4 rfl ?_
  have c2 := k.1
  replace k := k.2
  refine wp_callV (ci := 5) (y' := mX7_at) (st := []) [jI a1] rfl rfl rfl fX7_at kX5_71 nX7_at dX5_straightCharacter_5 (Nat.le_of_ble_eq_true rfl) c2 ?_
  refine jCall.mono k (fun o h5 k => ?_)
  obtain ⟨v5, e, k⟩ := k
  subst e
  show jWp (d + 1) mX5_straightCharacter 8 [(0, jR a0), (1, jI a1), (2, jI a2)] [jI v5] h5 Q
  refine wp_bipush dX5_straightCharacter_8 ⟨by decide, by decide⟩ ?_
  refine wp_icmp_ne 16 dX5_straightCharacter_10 rfl (fun q => ?_) (fun q => ?_)
  · replace k := k.1 q
    refine wp_iload_n 2 dX5_straightCharacter_16 rfl ?_
    refine wp_if_eq 31 dX5_straightCharacter_17 rfl (fun q => ?_) (fun q => ?_)
    · replace k := k.1 q
      refine wp_aload_n 0 dX5_straightCharacter_31 rfl ?_
      have c3 := k.1
      replace k := k.2
      refine wp_getR (ci := 3) (j := 2) rfl (by decide) gX5_23 dX5_straightCharacter_32 c3 rfl ?_
      refine wp_iload_n 1 dX5_straightCharacter_35 rfl ?_
      have c4 := k.1
      replace k := k.2
      refine wp_callV (ci := 5) (y' := mX7_at) (st := []) [jI a1] rfl rfl rfl fX7_at kX5_71 nX7_at dX5_straightCharacter_36 (Nat.le_of_ble_eq_true rfl) c4 ?_
      refine jCall.mono k (fun o h36 k => ?_)
      obtain ⟨v36, e, k⟩ := k
      subst e
      show jWp (d + 1) mX5_straightCharacter 39 [(0, jR a0), (1, jI a1), (2, jI a2)] [jI v36] h36 Q
      refine wp_bipush dX5_straightCharacter_39 ⟨by decide, by decide⟩ ?_
      have c5 := k.1
      replace k := k.2
      refine wp_isub dX5_straightCharacter_41 c5 ?_
      exact wp_iret dX5_straightCharacter_42 rfl k
    · replace k := k.2 q
      refine wp_aload_n 0 dX5_straightCharacter_20 rfl ?_
      have c6 := k.1
      replace k := k.2
      refine wp_getR (ci := 3) (j := 2) rfl (by decide) gX5_23 dX5_straightCharacter_21 c6 rfl ?_
      refine wp_iload_n 1 dX5_straightCharacter_24 rfl ?_
      have c7 := k.1
      replace k := k.2
      refine wp_callV (ci := 5) (y' := mX7_twoDigits) (st := []) [jI a1] rfl rfl rfl fX7_twoDigits kX5_78 nX7_twoDigits dX5_straightCharacter_25 (Nat.le_of_ble_eq_true rfl) c7 ?_
      refine jCall.mono k (fun o h25 k => ?_)
      obtain ⟨v25, e, k⟩ := k
      subst e
      show jWp (d + 1) mX5_straightCharacter 28 [(0, jR a0), (1, jI a1), (2, jI a2)] [jI v25] h25 Q
      refine wp_goto 42 dX5_straightCharacter_28 rfl ?_
      exact wp_iret dX5_straightCharacter_42 rfl k
  · replace k := k.2 q
    refine wp_bipush dX5_straightCharacter_13 ⟨by decide, by decide⟩ ?_
    exact wp_iret dX5_straightCharacter_15 rfl k
theorem bX5_isChangeBest {d : Nat} {h : jH} {Q : jO → jH → Prop} {a0 : Nat} {a1 : Int} {a2 : Int} (k : jOK h → j32 a1 → j32 a2 → hK h a0 = 4 ∧ jCall d mX5_straightCost [jR a0, jI a1, jI a2] h (fun o h3 => ∃ v3, o = .inl (some (jI v3)) ∧ ((a2 ≠ 0 → hK h3 a0 = 4 ∧ jCall d mX5_straightCost [jR a0, jI a1, jI 0] h3 (fun o h18 => ∃ v18, o = .inl (some (jI v18)) ∧ j32 (v18 + 1) ∧ ((v3 = (v18 + 1) → ((a2 = 0 → hK h18 a0 = 4 ∧ jCall d mX5_straightCharacter [jR a0, jI a1, jI a2] h18 (fun o h57 => ∃ v57, o = .inl (some (jI v57)) ∧ ((v57 ≤ 99 → jWp (d + 1) mX5_isChangeBest 68 [] [jI 0] h57 Q) ∧ (¬ (v57 ≤ 99) → jWp (d + 1) mX5_isChangeBest 68 [] [jI 1] h57 Q)))) ∧ (¬ (a2 = 0) → hK h18 a0 = 4 ∧ jCall d mX5_straightCharacter [jR a0, jI a1, jI a2] h18 (fun o h57_1 => ∃ v57_1, o = .inl (some (jI v57_1)) ∧ ((v57_1 ≤ 100 → jWp (d + 1) mX5_isChangeBest 68 [] [jI 0] h57_1 Q) ∧ (¬ (v57_1 ≤ 100) → jWp (d + 1) mX5_isChangeBest 68 [] [jI 1] h57_1 Q)))))) ∧ (¬ (v3 = (v18 + 1)) → ((v3 ≤ (v18 + 1) → Q (.inl (some (jI 0))) h18) ∧ (¬ (v3 ≤ (v18 + 1)) → Q (.inl (some (jI 1))) h18)))))) ∧ (a2 = 0 → hK h3 a0 = 4 ∧ jCall d mX5_straightCost [jR a0, jI a1, jI 1] h3 (fun o h18_1 => ∃ v18_1, o = .inl (some (jI v18_1)) ∧ j32 (v18_1 + 1) ∧ ((v3 = (v18_1 + 1) → ((a2 = 0 → hK h18_1 a0 = 4 ∧ jCall d mX5_straightCharacter [jR a0, jI a1, jI a2] h18_1 (fun o h57_2 => ∃ v57_2, o = .inl (some (jI v57_2)) ∧ ((v57_2 ≤ 99 → jWp (d + 1) mX5_isChangeBest 68 [] [jI 0] h57_2 Q) ∧ (¬ (v57_2 ≤ 99) → jWp (d + 1) mX5_isChangeBest 68 [] [jI 1] h57_2 Q)))) ∧ (¬ (a2 = 0) → hK h18_1 a0 = 4 ∧ jCall d mX5_straightCharacter [jR a0, jI a1, jI a2] h18_1 (fun o h57_3 => ∃ v57_3, o = .inl (some (jI v57_3)) ∧ ((v57_3 ≤ 100 → jWp (d + 1) mX5_isChangeBest 68 [] [jI 0] h57_3 Q) ∧ (¬ (v57_3 ≤ 100) → jWp (d + 1) mX5_isChangeBest 68 [] [jI 1] h57_3 Q)))))) ∧ (¬ (v3 = (v18_1 + 1)) → ((v3 ≤ (v18_1 + 1) → Q (.inl (some (jI 0))) h18_1) ∧ (¬ (v3 ≤ (v18_1 + 1)) → Q (.inl (some (jI 1))) h18_1))))))))) : jCall (d + 1) mX5_isChangeBest [jR a0, jI a1, jI a2] h Q := by
  refine jCall_of plX5 (Nat.le_of_ble_eq_true rfl) ?_
  show jWp (d + 1) mX5_isChangeBest 0 [(0, jR a0), (1, jI a1), (2, jI a2)] [] h Q
  refine jw_ok (fun ok q => ?_)
  replace k := k ok (q _ (.tail _ (.head _))) (q _ (.tail _ (.tail _ (.head _))))
  refine wp_aload_n 0 dX5_isChangeBest_0 rfl ?_
  refine wp_iload_n 1 dX5_isChangeBest_1 rfl ?_
  refine wp_iload_n 2 dX5_isChangeBest_2 rfl ?_
  have c1 := k.1
  replace k := k.2
  refine wp_callV (ci := 3) (y' := mX5_straightCost) (st := []) [jI a1, jI a2] rfl rfl rfl fX5_straightCost kX5_64 nX5_straightCost dX5_isChangeBest_3 (Nat.le_of_ble_eq_true rfl) c1 ?_
  refine jCall.mono k (fun o h3 k => ?_)
  obtain ⟨v3, e, k⟩ := k
  subst e
  show jWp (d + 1) mX5_isChangeBest 6 [(0, jR a0), (1, jI a1), (2, jI a2)] [jI v3] h3 Q
  refine wp_istore_n [1, 2, 3, 0] (ls' := [(0, jR a0), (1, jI a1), (2, jI a2), (3, jI v3)]) dX5_isChangeBest_6 (by decide) rfl ?_
  refine wp_aload_n 0 dX5_isChangeBest_7 rfl ?_
  refine wp_iload_n 1 dX5_isChangeBest_8 rfl ?_
  refine wp_iload_n 2 dX5_isChangeBest_9 rfl ?_
  refine wp_if_ne 17 dX5_isChangeBest_10 rfl (fun q => ?_) (fun q => ?_)
  · replace k := k.1 q
    refine wp_iconst dX5_isChangeBest_17 ⟨by decide, by decide⟩ ?_
    have c2 := k.1
    replace k := k.2
    refine wp_callV (ci := 3) (y' := mX5_straightCost) (st := []) [jI a1, jI 0] rfl rfl rfl fX5_straightCost kX5_64 nX5_straightCost dX5_isChangeBest_18 (Nat.le_of_ble_eq_true rfl) c2 ?_
    refine jCall.mono k (fun o h18 k => ?_)
    obtain ⟨v18, e, k⟩ := k
    subst e
    show jWp (d + 1) mX5_isChangeBest 21 [(0, jR a0), (1, jI a1), (2, jI a2), (3, jI v3)] [jI v18] h18 Q
    refine wp_iconst dX5_isChangeBest_21 ⟨by decide, by decide⟩ ?_
    have c3 := k.1
    replace k := k.2
    refine wp_iadd dX5_isChangeBest_22 c3 ?_
    refine wp_istore [1, 2, 3, 4, 0] (ls' := [(0, jR a0), (1, jI a1), (2, jI a2), (3, jI v3), (4, jI (v18 + 1))]) dX5_isChangeBest_23 (by decide) rfl ?_
    refine wp_iload_n 3 dX5_isChangeBest_25 rfl ?_
    refine wp_iload 4 dX5_isChangeBest_26 rfl ?_
    refine wp_icmp_eq 43 dX5_isChangeBest_28 rfl (fun q => ?_) (fun q => ?_)
    · replace k := k.1 q
      refine wp_iload_n 2 dX5_isChangeBest_43 rfl ?_
      refine wp_if_eq 52 dX5_isChangeBest_44 rfl (fun q => ?_) (fun q => ?_)
      · replace k := k.1 q
        refine wp_bipush dX5_isChangeBest_52 ⟨by decide, by decide⟩ ?_
        refine wp_aload_n 0 dX5_isChangeBest_54 rfl ?_
        refine wp_iload_n 1 dX5_isChangeBest_55 rfl ?_
        refine wp_iload_n 2 dX5_isChangeBest_56 rfl ?_
        have c4 := k.1
        replace k := k.2
        refine wp_callV (ci := 3) (y' := mX5_straightCharacter) (st := [jI 99]) [jI a1, jI a2] rfl rfl rfl fX5_straightCharacter kX5_46 nX5_straightCharacter dX5_isChangeBest_57 (Nat.le_of_ble_eq_true rfl) c4 ?_
        refine jCall.mono k (fun o h57 k => ?_)
        obtain ⟨v57, e, k⟩ := k
        subst e
        show jWp (d + 1) mX5_isChangeBest 60 [(0, jR a0), (1, jI a1), (2, jI a2), (3, jI v3), (4, jI (v18 + 1))] [jI v57, jI 99] h57 Q
        refine wp_icmp_ge 67 dX5_isChangeBest_60 rfl (fun q => ?_) (fun q => ?_)
        · replace k := k.1 q
          refine wp_iconst dX5_isChangeBest_67 ⟨by decide, by decide⟩ ?_
          refine wp_sub [] (ls' := []) rfl ?_
          exact k
        · replace k := k.2 q
          refine wp_iconst dX5_isChangeBest_63 ⟨by decide, by decide⟩ ?_
          refine wp_goto 68 dX5_isChangeBest_64 rfl ?_
          refine wp_sub [] (ls' := []) rfl ?_
          exact k
      · replace k := k.2 q
        refine wp_bipush dX5_isChangeBest_47 ⟨by decide, by decide⟩ ?_
        refine wp_goto 54 dX5_isChangeBest_49 rfl ?_
        refine wp_aload_n 0 dX5_isChangeBest_54 rfl ?_
        refine wp_iload_n 1 dX5_isChangeBest_55 rfl ?_
        refine wp_iload_n 2 dX5_isChangeBest_56 rfl ?_
        have c5 := k.1
        replace k := k.2
        refine wp_callV (ci := 3) (y' := mX5_straightCharacter) (st := [jI 100]) [jI a1, jI a2] rfl rfl rfl fX5_straightCharacter kX5_46 nX5_straightCharacter dX5_isChangeBest_57 (Nat.le_of_ble_eq_true rfl) c5 ?_
        refine jCall.mono k (fun o h57_1 k => ?_)
        obtain ⟨v57_1, e, k⟩ := k
        subst e
        show jWp (d + 1) mX5_isChangeBest 60 [(0, jR a0), (1, jI a1), (2, jI a2), (3, jI v3), (4, jI (v18 + 1))] [jI v57_1, jI 100] h57_1 Q
        refine wp_icmp_ge 67 dX5_isChangeBest_60 rfl (fun q => ?_) (fun q => ?_)
        · replace k := k.1 q
          refine wp_iconst dX5_isChangeBest_67 ⟨by decide, by decide⟩ ?_
          refine wp_sub [] (ls' := []) rfl ?_
          exact k
        · replace k := k.2 q
          refine wp_iconst dX5_isChangeBest_63 ⟨by decide, by decide⟩ ?_
          refine wp_goto 68 dX5_isChangeBest_64 rfl ?_
          refine wp_sub [] (ls' := []) rfl ?_
          exact k
    · replace k := k.2 q
      refine wp_iload 4 dX5_isChangeBest_31 rfl ?_
      refine wp_iload_n 3 dX5_isChangeBest_33 rfl ?_
      refine wp_icmp_ge 41 dX5_isChangeBest_34 rfl (fun q => ?_) (fun q => ?_)
      · replace k := k.1 q
        refine wp_iconst dX5_isChangeBest_41 ⟨by decide, by decide⟩ ?_
        exact wp_zreturn dX5_isChangeBest_42 rfl (by decide) (by decide) k
      · replace k := k.2 q
        refine wp_iconst dX5_isChangeBest_37 ⟨by decide, by decide⟩ ?_
        refine wp_goto 42 dX5_isChangeBest_38 rfl ?_
        exact wp_zreturn dX5_isChangeBest_42 rfl (by decide) (by decide) k
  · replace k := k.2 q
    refine wp_iconst dX5_isChangeBest_13 ⟨by decide, by decide⟩ ?_
    refine wp_goto 18 dX5_isChangeBest_14 rfl ?_
    have c6 := k.1
    replace k := k.2
    refine wp_callV (ci := 3) (y' := mX5_straightCost) (st := []) [jI a1, jI 1] rfl rfl rfl fX5_straightCost kX5_64 nX5_straightCost dX5_isChangeBest_18 (Nat.le_of_ble_eq_true rfl) c6 ?_
    refine jCall.mono k (fun o h18_1 k => ?_)
    obtain ⟨v18_1, e, k⟩ := k
    subst e
    show jWp (d + 1) mX5_isChangeBest 21 [(0, jR a0), (1, jI a1), (2, jI a2), (3, jI v3)] [jI v18_1] h18_1 Q
    refine wp_iconst dX5_isChangeBest_21 ⟨by decide, by decide⟩ ?_
    have c7 := k.1
    replace k := k.2
    refine wp_iadd dX5_isChangeBest_22 c7 ?_
    refine wp_istore [1, 2, 3, 4, 0] (ls' := [(0, jR a0), (1, jI a1), (2, jI a2), (3, jI v3), (4, jI (v18_1 + 1))]) dX5_isChangeBest_23 (by decide) rfl ?_
    refine wp_iload_n 3 dX5_isChangeBest_25 rfl ?_
    refine wp_iload 4 dX5_isChangeBest_26 rfl ?_
    refine wp_icmp_eq 43 dX5_isChangeBest_28 rfl (fun q => ?_) (fun q => ?_)
    · replace k := k.1 q
      refine wp_iload_n 2 dX5_isChangeBest_43 rfl ?_
      refine wp_if_eq 52 dX5_isChangeBest_44 rfl (fun q => ?_) (fun q => ?_)
      · replace k := k.1 q
        refine wp_bipush dX5_isChangeBest_52 ⟨by decide, by decide⟩ ?_
        refine wp_aload_n 0 dX5_isChangeBest_54 rfl ?_
        refine wp_iload_n 1 dX5_isChangeBest_55 rfl ?_
        refine wp_iload_n 2 dX5_isChangeBest_56 rfl ?_
        have c8 := k.1
        replace k := k.2
        refine wp_callV (ci := 3) (y' := mX5_straightCharacter) (st := [jI 99]) [jI a1, jI a2] rfl rfl rfl fX5_straightCharacter kX5_46 nX5_straightCharacter dX5_isChangeBest_57 (Nat.le_of_ble_eq_true rfl) c8 ?_
        refine jCall.mono k (fun o h57_2 k => ?_)
        obtain ⟨v57_2, e, k⟩ := k
        subst e
        show jWp (d + 1) mX5_isChangeBest 60 [(0, jR a0), (1, jI a1), (2, jI a2), (3, jI v3), (4, jI (v18_1 + 1))] [jI v57_2, jI 99] h57_2 Q
        refine wp_icmp_ge 67 dX5_isChangeBest_60 rfl (fun q => ?_) (fun q => ?_)
        · replace k := k.1 q
          refine wp_iconst dX5_isChangeBest_67 ⟨by decide, by decide⟩ ?_
          refine wp_sub [] (ls' := []) rfl ?_
          exact k
        · replace k := k.2 q
          refine wp_iconst dX5_isChangeBest_63 ⟨by decide, by decide⟩ ?_
          refine wp_goto 68 dX5_isChangeBest_64 rfl ?_
          refine wp_sub [] (ls' := []) rfl ?_
          exact k
      · replace k := k.2 q
        refine wp_bipush dX5_isChangeBest_47 ⟨by decide, by decide⟩ ?_
        refine wp_goto 54 dX5_isChangeBest_49 rfl ?_
        refine wp_aload_n 0 dX5_isChangeBest_54 rfl ?_
        refine wp_iload_n 1 dX5_isChangeBest_55 rfl ?_
        refine wp_iload_n 2 dX5_isChangeBest_56 rfl ?_
        have c9 := k.1
        replace k := k.2
        refine wp_callV (ci := 3) (y' := mX5_straightCharacter) (st := [jI 100]) [jI a1, jI a2] rfl rfl rfl fX5_straightCharacter kX5_46 nX5_straightCharacter dX5_isChangeBest_57 (Nat.le_of_ble_eq_true rfl) c9 ?_
        refine jCall.mono k (fun o h57_3 k => ?_)
        obtain ⟨v57_3, e, k⟩ := k
        subst e
        show jWp (d + 1) mX5_isChangeBest 60 [(0, jR a0), (1, jI a1), (2, jI a2), (3, jI v3), (4, jI (v18_1 + 1))] [jI v57_3, jI 100] h57_3 Q
        refine wp_icmp_ge 67 dX5_isChangeBest_60 rfl (fun q => ?_) (fun q => ?_)
        · replace k := k.1 q
          refine wp_iconst dX5_isChangeBest_67 ⟨by decide, by decide⟩ ?_
          refine wp_sub [] (ls' := []) rfl ?_
          exact k
        · replace k := k.2 q
          refine wp_iconst dX5_isChangeBest_63 ⟨by decide, by decide⟩ ?_
          refine wp_goto 68 dX5_isChangeBest_64 rfl ?_
          refine wp_sub [] (ls' := []) rfl ?_
          exact k
    · replace k := k.2 q
      refine wp_iload 4 dX5_isChangeBest_31 rfl ?_
      refine wp_iload_n 3 dX5_isChangeBest_33 rfl ?_
      refine wp_icmp_ge 41 dX5_isChangeBest_34 rfl (fun q => ?_) (fun q => ?_)
      · replace k := k.1 q
        refine wp_iconst dX5_isChangeBest_41 ⟨by decide, by decide⟩ ?_
        exact wp_zreturn dX5_isChangeBest_42 rfl (by decide) (by decide) k
      · replace k := k.2 q
        refine wp_iconst dX5_isChangeBest_37 ⟨by decide, by decide⟩ ?_
        refine wp_goto 42 dX5_isChangeBest_38 rfl ?_
        exact wp_zreturn dX5_isChangeBest_42 rfl (by decide) (by decide) k
theorem bX5_isChangeBest_68 {d : Nat} {h : jH} {Q : jO → jH → Prop} {s0 : Int} (k : jOK h → (0 ≤ s0 ∧ s0 ≤ 1) ∧ Q (.inl (some (jI s0))) h) : jWp (d + 1) mX5_isChangeBest 68 [] [jI s0] h Q := by
  refine jw_ok (fun ok q => ?_)
  replace k := k ok 
  have c1 := k.1
  replace k := k.2
  exact wp_zreturn dX5_isChangeBest_68 rfl c1.1 c1.2 k
