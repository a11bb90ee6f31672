/-! BLOCKS (made by wip/whole/gen/genblk.py) -/
theorem bX4_init {d : Nat} {h : jH} {Q : jO → jH → Prop} {a0 : Nat} (k : jOK h → a0 ≠ 0 ∧ (hS h) ≠ 0 ∧ jCall d mX7_init [jR (hS h), jI 90] (sN h 6 0 2) (fun o h11 => o = .inl none ∧ hK h11 a0 = 3 ∧ Q (.inl none) (sR h11 200 a0 (hS h)))) : jCall (d + 1) mX4_init [jR a0] h Q := by
  refine jCall_of plX4 (Nat.le_of_ble_eq_true rfl) ?_
  show jWp (d + 1) mX4_init 0 [(0, jR a0)] [] h Q
  refine jw_ok (fun ok q => ?_)
  replace k := k ok 
  refine wp_aload_n 0 dX4_init_0 rfl ?_
  have c1 := k.1
  replace k := k.2
  refine wp_objInit dX4_init_1 kX4_3 c1 (Nat.le_of_ble_eq_true rfl) ?_
  refine wp_aload_n 0 dX4_init_4 rfl ?_
  refine wp_new (ci := 5) rfl qX4_9 iX7 inX7 dX4_init_5 ?_
  refine wp_dup dX4_init_8 rfl ?_
  refine wp_bipush dX4_init_9 ⟨by decide, by decide⟩ ?_
  have c2 := k.1
  replace k := k.2
  refine wp_callI (y' := mX7_init) (st := [jR (hS h), jR a0]) [jI 90] rfl fX7_init kX4_11 nX7_init dX4_init_11 (Nat.le_of_ble_eq_true rfl) c2 ?_
  refine jCall.mono k (fun o h11 k => ?_)
  obtain ⟨e, k⟩ := k
  refine ⟨e, ?_⟩
  show jWp (d + 1) mX4_init 14 [(0, jR a0)] [jR (hS h), jR a0] h11 Q
  have c3 := k.1
  replace k := k.2
  refine wp_putR (ci := 2) (j := 0) rfl (by decide) gX4_14 dX4_init_14 c3 (Or.inr ⟨rfl, rfl, rfl⟩) rfl ?_
  exact wp_return dX4_init_17 rfl k
theorem bX4_begin {d : Nat} {h : jH} {Q : jO → jH → Prop} {a0 : Nat} {a1 : Int} {a2 : Int} {a3 : Int} {a4 : Int} (k : jOK h → j32 a1 → j32 a2 → j32 a3 → j32 a4 → hK h a0 = 3 ∧ jCall d mX8_hasPoint [jI a3] (sI (sI (sI h 201 a0 a1) 202 a0 a2) 203 a0 a3) (fun o h17 => ∃ v17, o = .inl (some (jI v17)) ∧ ((v17 = 0 → hK h17 a0 = 3 ∧ hK h17 (hR h17 200 a0) = 6 ∧ jCall d mX7_clear [jR (hR h17 200 a0)] (sI (sI h17 204 a0 a1) 205 a0 a4) (fun o h44 => o = .inl none ∧ Q (.inl none) h44)) ∧ (¬ (v17 = 0) → 0 ≤ a1 ∧ hK h17 a0 = 3 ∧ hK h17 (hR h17 200 a0) = 6 ∧ jCall d mX7_clear [jR (hR h17 200 a0)] (sI (sI h17 204 a0 (a1 / 10)) 205 a0 a4) (fun o h44_1 => o = .inl none ∧ Q (.inl none) h44_1))))) : jCall (d + 1) mX4_begin [jR a0, jI a1, jI a2, jI a3, jI a4] h Q := by
  refine jCall_of plX4 (Nat.le_of_ble_eq_true rfl) ?_
  show jWp (d + 1) mX4_begin 0 [(0, jR a0), (1, jI a1), (2, jI a2), (3, jI a3), (4, jI a4)] [] h Q
  refine jw_ok (fun ok q => ?_)
  replace k := k ok (q _ (.tail _ (.head _))) (q _ (.tail _ (.tail _ (.head _)))) (q _ (.tail _ (.tail _ (.tail _ (.head _))))) (q _ (.tail _ (.tail _ (.tail _ (.tail _ (.head _))))))
  refine wp_aload_n 0 dX4_begin_0 rfl ?_
  refine wp_iload_n 1 dX4_begin_1 rfl ?_
  have c1 := k.1
  replace k := k.2
  refine wp_putI (ci := 2) (j := 1) rfl (by decide) gX4_20 dX4_begin_2 c1 (Or.inl rfl) rfl ?_
  refine wp_aload_n 0 dX4_begin_5 rfl ?_
  refine wp_iload_n 2 dX4_begin_6 rfl ?_
  refine wp_putI (ci := 2) (j := 2) rfl (by decide) gX4_24 dX4_begin_7 c1 (Or.inl rfl) rfl ?_
  refine wp_aload_n 0 dX4_begin_10 rfl ?_
  refine wp_iload_n 3 dX4_begin_11 rfl ?_
  refine wp_putI (ci := 2) (j := 3) rfl (by decide) gX4_27 dX4_begin_12 c1 (Or.inl rfl) rfl ?_
  refine wp_aload_n 0 dX4_begin_15 rfl ?_
  refine wp_iload_n 3 dX4_begin_16 rfl ?_
  refine wp_callS (y' := mX8_hasPoint) (st := [jR a0]) [jI a3] rfl fX8_hasPoint kX4_30 nX8_hasPoint dX4_begin_17 (Nat.le_of_ble_eq_true rfl) ?_
  refine jCall.mono k (fun o h17 k => ?_)
  obtain ⟨v17, e, k⟩ := k
  subst e
  show jWp (d + 1) mX4_begin 20 [(0, jR a0), (1, jI a1), (2, jI a2), (3, jI a3), (4, jI a4)] [jI v17, jR a0] h17 Q
  refine wp_if_eq 30 dX4_begin_20 rfl (fun q => ?_) (fun q => ?_)
  · replace k := k.1 q
    refine wp_iload_n 1 dX4_begin_30 rfl ?_
    have c2 := k.1
    replace k := k.2
    refine wp_putI (ci := 2) (j := 4) rfl (by decide) gX4_36 dX4_begin_31 c2 (Or.inl rfl) rfl ?_
    refine wp_aload_n 0 dX4_begin_34 rfl ?_
    refine wp_iload 4 dX4_begin_35 rfl ?_
    refine wp_putI (ci := 2) (j := 5) rfl (by decide) gX4_39 dX4_begin_37 c2 (Or.inl rfl) rfl ?_
    refine wp_aload_n 0 dX4_begin_40 rfl ?_
    refine wp_getR (ci := 2) (j := 0) rfl (by decide) gX4_14 dX4_begin_41 c2 rfl ?_
    have c3 := k.1
    replace k := k.2
    refine wp_callV (ci := 5) (y' := mX7_clear) (st := []) [] rfl rfl rfl fX7_clear kX4_42 nX7_clear dX4_begin_44 (Nat.le_of_ble_eq_true rfl) c3 ?_
    refine jCall.mono k (fun o h44 k => ?_)
    obtain ⟨e, k⟩ := k
    subst e
    show jWp (d + 1) mX4_begin 47 [(0, jR a0), (1, jI a1), (2, jI a2), (3, jI a3), (4, jI a4)] [] h44 Q
    exact wp_return dX4_begin_47 rfl k
  · replace k := k.2 q
    refine wp_iload_n 1 dX4_begin_23 rfl ?_
    refine wp_bipush dX4_begin_24 ⟨by decide, by decide⟩ ?_
    have c4 := k.1
    replace k := k.2
    refine wp_idiv dX4_begin_26 c4 (by decide) ?_
    refine wp_goto 31 dX4_begin_27 rfl ?_
    have c5 := k.1
    replace k := k.2
    refine wp_putI (ci := 2) (j := 4) rfl (by decide) gX4_36 dX4_begin_31 c5 (Or.inl rfl) rfl ?_
    refine wp_aload_n 0 dX4_begin_34 rfl ?_
    refine wp_iload 4 dX4_begin_35 rfl ?_
    refine wp_putI (ci := 2) (j := 5) rfl (by decide) gX4_39 dX4_begin_37 c5 (Or.inl rfl) rfl ?_
    refine wp_aload_n 0 dX4_begin_40 rfl ?_
    refine wp_getR (ci := 2) (j := 0) rfl (by decide) gX4_14 dX4_begin_41 c5 rfl ?_
    have c6 := k.1
    replace k := k.2
    refine wp_callV (ci := 5) (y' := mX7_clear) (st := []) [] rfl rfl rfl fX7_clear kX4_42 nX7_clear dX4_begin_44 (Nat.le_of_ble_eq_true rfl) c6 ?_
    refine jCall.mono k (fun o h44_1 k => ?_)
    obtain ⟨e, k⟩ := k
    subst e
    show jWp (d + 1) mX4_begin 47 [(0, jR a0), (1, jI a1), (2, jI a2), (3, jI a3), (4, jI a4)] [] h44_1 Q
    exact wp_return dX4_begin_47 rfl k
theorem bX4_copyFrom {d : Nat} {h : jH} {Q : jO → jH → Prop} {a0 : Nat} {a1 : Nat} (k : jOK h → hK h a1 = 3 ∧ (j32 (hI h 201 a1) → hK h a0 = 3 ∧ (j32 (hI (sI h 201 a0 (hI h 201 a1)) 202 a1) → (j32 (hI (sI (sI h 201 a0 (hI h 201 a1)) 202 a0 (hI (sI h 201 a0 (hI h 201 a1)) 202 a1)) 203 a1) → (j32 (hI (sI (sI (sI h 201 a0 (hI h 201 a1)) 202 a0 (hI (sI h 201 a0 (hI h 201 a1)) 202 a1)) 203 a0 (hI (sI (sI h 201 a0 (hI h 201 a1)) 202 a0 (hI (sI h 201 a0 (hI h 201 a1)) 202 a1)) 203 a1)) 204 a1) → (j32 (hI (sI (sI (sI (sI h 201 a0 (hI h 201 a1)) 202 a0 (hI (sI h 201 a0 (hI h 201 a1)) 202 a1)) 203 a0 (hI (sI (sI h 201 a0 (hI h 201 a1)) 202 a0 (hI (sI h 201 a0 (hI h 201 a1)) 202 a1)) 203 a1)) 204 a0 (hI (sI (sI (sI h 201 a0 (hI h 201 a1)) 202 a0 (hI (sI h 201 a0 (hI h 201 a1)) 202 a1)) 203 a0 (hI (sI (sI h 201 a0 (hI h 201 a1)) 202 a0 (hI (sI h 201 a0 (hI h 201 a1)) 202 a1)) 203 a1)) 204 a1)) 205 a1) → hK h (hR h 200 a0) = 6 ∧ jCall d mX7_copyFrom [jR (hR h 200 a0), jR (hR h 200 a1)] (sI (sI (sI (sI (sI h 201 a0 (hI h 201 a1)) 202 a0 (hI (sI h 201 a0 (hI h 201 a1)) 202 a1)) 203 a0 (hI (sI (sI h 201 a0 (hI h 201 a1)) 202 a0 (hI (sI h 201 a0 (hI h 201 a1)) 202 a1)) 203 a1)) 204 a0 (hI (sI (sI (sI h 201 a0 (hI h 201 a1)) 202 a0 (hI (sI h 201 a0 (hI h 201 a1)) 202 a1)) 203 a0 (hI (sI (sI h 201 a0 (hI h 201 a1)) 202 a0 (hI (sI h 201 a0 (hI h 201 a1)) 202 a1)) 203 a1)) 204 a1)) 205 a0 (hI (sI (sI (sI (sI h 201 a0 (hI h 201 a1)) 202 a0 (hI (sI h 201 a0 (hI h 201 a1)) 202 a1)) 203 a0 (hI (sI (sI h 201 a0 (hI h 201 a1)) 202 a0 (hI (sI h 201 a0 (hI h 201 a1)) 202 a1)) 203 a1)) 204 a0 (hI (sI (sI (sI h 201 a0 (hI h 201 a1)) 202 a0 (hI (sI h 201 a0 (hI h 201 a1)) 202 a1)) 203 a0 (hI (sI (sI h 201 a0 (hI h 201 a1)) 202 a0 (hI (sI h 201 a0 (hI h 201 a1)) 202 a1)) 203 a1)) 204 a1)) 205 a1)) (fun o h48 => o = .inl none ∧ Q (.inl none) h48))))))) : jCall (d + 1) mX4_copyFrom [jR a0, jR a1] h Q := by
  refine jCall_of plX4 (Nat.le_of_ble_eq_true rfl) ?_
  show jWp (d + 1) mX4_copyFrom 0 [(0, jR a0), (1, jR a1)] [] h Q
  refine jw_ok (fun ok q => ?_)
  replace k := k ok 
  refine wp_aload_n 0 dX4_copyFrom_0 rfl ?_
  refine wp_aload_n 1 dX4_copyFrom_1 rfl ?_
  have c1 := k.1
  replace k := k.2
  refine wp_getI (ci := 2) (j := 1) rfl (by decide) gX4_20 dX4_copyFrom_2 c1 rfl (fun q => ?_)
  have f2 := q
  replace k := k q
  have c3 := k.1
  replace k := k.2
  refine wp_putI (ci := 2) (j := 1) rfl (by decide) gX4_20 dX4_copyFrom_5 c3 (Or.inl rfl) rfl ?_
  refine wp_aload_n 0 dX4_copyFrom_8 rfl ?_
  refine wp_aload_n 1 dX4_copyFrom_9 rfl ?_
  refine wp_getI (ci := 2) (j := 2) rfl (by decide) gX4_24 dX4_copyFrom_10 c1 rfl (fun q => ?_)
  have f4 := q
  replace k := k q
  refine wp_putI (ci := 2) (j := 2) rfl (by decide) gX4_24 dX4_copyFrom_13 c3 (Or.inl rfl) rfl ?_
  refine wp_aload_n 0 dX4_copyFrom_16 rfl ?_
  refine wp_aload_n 1 dX4_copyFrom_17 rfl ?_
  refine wp_getI (ci := 2) (j := 3) rfl (by decide) gX4_27 dX4_copyFrom_18 c1 rfl (fun q => ?_)
  have f5 := q
  replace k := k q
  refine wp_putI (ci := 2) (j := 3) rfl (by decide) gX4_27 dX4_copyFrom_21 c3 (Or.inl rfl) rfl ?_
  refine wp_aload_n 0 dX4_copyFrom_24 rfl ?_
  refine wp_aload_n 1 dX4_copyFrom_25 rfl ?_
  refine wp_getI (ci := 2) (j := 4) rfl (by decide) gX4_36 dX4_copyFrom_26 c1 rfl (fun q => ?_)
  have f6 := q
  replace k := k q
  refine wp_putI (ci := 2) (j := 4) rfl (by decide) gX4_36 dX4_copyFrom_29 c3 (Or.inl rfl) rfl ?_
  refine wp_aload_n 0 dX4_copyFrom_32 rfl ?_
  refine wp_aload_n 1 dX4_copyFrom_33 rfl ?_
  refine wp_getI (ci := 2) (j := 5) rfl (by decide) gX4_39 dX4_copyFrom_34 c1 rfl (fun q => ?_)
  have f7 := q
  replace k := k q
  refine wp_putI (ci := 2) (j := 5) rfl (by decide) gX4_39 dX4_copyFrom_37 c3 (Or.inl rfl) rfl ?_
  refine wp_aload_n 0 dX4_copyFrom_40 rfl ?_
  refine wp_getR (ci := 2) (j := 0) rfl (by decide) gX4_14 dX4_copyFrom_41 c3 rfl ?_
  refine wp_aload_n 1 dX4_copyFrom_44 rfl ?_
  refine wp_getR (ci := 2) (j := 0) rfl (by decide) gX4_14 dX4_copyFrom_45 c1 rfl ?_
  have c8 := k.1
  replace k := k.2
  refine wp_callV (ci := 5) (y' := mX7_copyFrom) (st := []) [jR (hR h 200 a1)] rfl rfl rfl fX7_copyFrom kX4_45 nX7_copyFrom dX4_copyFrom_48 (Nat.le_of_ble_eq_true rfl) c8 ?_
  refine jCall.mono k (fun o h48 k => ?_)
  obtain ⟨e, k⟩ := k
  subst e
  show jWp (d + 1) mX4_copyFrom 51 [(0, jR a0), (1, jR a1)] [] h48 Q
  exact wp_return dX4_copyFrom_51 rfl k
theorem bX4_isSameAs {d : Nat} {h : jH} {Q : jO → jH → Prop} {a0 : Nat} {a1 : Nat} (k : jOK h → hK h a0 = 3 ∧ (j32 (hI h 201 a0) → hK h a1 = 3 ∧ (j32 (hI h 201 a1) → (((hI h 201 a0) ≠ (hI h 201 a1) → Q (.inl (some (jI 0))) h) ∧ ((hI h 201 a0) = (hI h 201 a1) → (j32 (hI h 202 a0) → (j32 (hI h 202 a1) → (((hI h 202 a0) ≠ (hI h 202 a1) → Q (.inl (some (jI 0))) h) ∧ ((hI h 202 a0) = (hI h 202 a1) → hK h (hR h 200 a0) = 6 ∧ jCall d mX7_isSameAs [jR (hR h 200 a0), jR (hR h 200 a1)] h (fun o h30 => ∃ v30, o = .inl (some (jI v30)) ∧ ((v30 = 0 → Q (.inl (some (jI 0))) h30) ∧ (¬ (v30 = 0) → Q (.inl (some (jI 1))) h30)))))))))))) : jCall (d + 1) mX4_isSameAs [jR a0, jR a1] h Q := by
  refine jCall_of plX4 (Nat.le_of_ble_eq_true rfl) ?_
  show jWp (d + 1) mX4_isSameAs 0 [(0, jR a0), (1, jR a1)] [] h Q
  refine jw_ok (fun ok q => ?_)
  replace k := k ok 
  refine wp_aload_n 0 dX4_isSameAs_0 rfl ?_
  have c1 := k.1
  replace k := k.2
  refine wp_getI (ci := 2) (j := 1) rfl (by decide) gX4_20 dX4_isSameAs_1 c1 rfl (fun q => ?_)
  have f2 := q
  replace k := k q
  refine wp_aload_n 1 dX4_isSameAs_4 rfl ?_
  have c3 := k.1
  replace k := k.2
  refine wp_getI (ci := 2) (j := 1) rfl (by decide) gX4_20 dX4_isSameAs_5 c3 rfl (fun q => ?_)
  have f4 := q
  replace k := k q
  refine wp_icmp_ne 40 dX4_isSameAs_8 rfl (fun q => ?_) (fun q => ?_)
  · replace k := k.1 q
    refine wp_iconst dX4_isSameAs_40 ⟨by decide, by decide⟩ ?_
    exact wp_zreturn dX4_isSameAs_41 rfl (by decide) (by decide) k
  · replace k := k.2 q
    refine wp_aload_n 0 dX4_isSameAs_11 rfl ?_
    refine wp_getI (ci := 2) (j := 2) rfl (by decide) gX4_24 dX4_isSameAs_12 c1 rfl (fun q => ?_)
    have f5 := q
    replace k := k q
    refine wp_aload_n 1 dX4_isSameAs_15 rfl ?_
    refine wp_getI (ci := 2) (j := 2) rfl (by decide) gX4_24 dX4_isSameAs_16 c3 rfl (fun q => ?_)
    have f6 := q
    replace k := k q
    refine wp_icmp_ne 40 dX4_isSameAs_19 rfl (fun q => ?_) (fun q => ?_)
    · replace k := k.1 q
      refine wp_iconst dX4_isSameAs_40 ⟨by decide, by decide⟩ ?_
      exact wp_zreturn dX4_isSameAs_41 rfl (by decide) (by decide) k
    · replace k := k.2 q
      refine wp_aload_n 0 dX4_isSameAs_22 rfl ?_
      refine wp_getR (ci := 2) (j := 0) rfl (by decide) gX4_14 dX4_isSameAs_23 c1 rfl ?_
      refine wp_aload_n 1 dX4_isSameAs_26 rfl ?_
      refine wp_getR (ci := 2) (j := 0) rfl (by decide) gX4_14 dX4_isSameAs_27 c3 rfl ?_
      have c7 := k.1
      replace k := k.2
      refine wp_callV (ci := 5) (y' := mX7_isSameAs) (st := []) [jR (hR h 200 a1)] rfl rfl rfl fX7_isSameAs kX4_49 nX7_isSameAs dX4_isSameAs_30 (Nat.le_of_ble_eq_true rfl) c7 ?_
      refine jCall.mono k (fun o h30 k => ?_)
      obtain ⟨v30, e, k⟩ := k
      subst e
      show jWp (d + 1) mX4_isSameAs 33 [(0, jR a0), (1, jR a1)] [jI v30] h30 Q
      refine wp_if_eq 40 dX4_isSameAs_33 rfl (fun q => ?_) (fun q => ?_)
      · replace k := k.1 q
        refine wp_iconst dX4_isSameAs_40 ⟨by decide, by decide⟩ ?_
        exact wp_zreturn dX4_isSameAs_41 rfl (by decide) (by decide) k
      · replace k := k.2 q
        refine wp_iconst dX4_isSameAs_36 ⟨by decide, by decide⟩ ?_
        refine wp_goto 41 dX4_isSameAs_37 rfl ?_
        exact wp_zreturn dX4_isSameAs_41 rfl (by decide) (by decide) k
theorem bX4_ai {d : Nat} {h : jH} {Q : jO → jH → Prop} {a0 : Nat} (k : jOK h → hK h a0 = 3 ∧ (j32 (hI h 201 a0) → Q (.inl (some (jI (hI h 201 a0)))) h)) : jCall d mX4_ai [jR a0] h Q := by
  refine jCall_of plX4 (Nat.le_of_ble_eq_true rfl) ?_
  show jWp d mX4_ai 0 [(0, jR a0)] [] h Q
  refine jw_ok (fun ok q => ?_)
  replace k := k ok 
  refine wp_aload_n 0 dX4_ai_0 rfl ?_
  have c1 := k.1
  replace k := k.2
  refine wp_getI (ci := 2) (j := 1) rfl (by decide) gX4_20 dX4_ai_1 c1 rfl (fun q => ?_)
  have f2 := q
  replace k := k q
  exact wp_iret dX4_ai_4 rfl k
theorem bX4_digits {d : Nat} {h : jH} {Q : jO → jH → Prop} {a0 : Nat} (k : jOK h → hK h a0 = 3 ∧ (j32 (hI h 202 a0) → Q (.inl (some (jI (hI h 202 a0)))) h)) : jCall d mX4_digits [jR a0] h Q := by
  refine jCall_of plX4 (Nat.le_of_ble_eq_true rfl) ?_
  show jWp d mX4_digits 0 [(0, jR a0)] [] h Q
  refine jw_ok (fun ok q => ?_)
  replace k := k ok 
  refine wp_aload_n 0 dX4_digits_0 rfl ?_
  have c1 := k.1
  replace k := k.2
  refine wp_getI (ci := 2) (j := 2) rfl (by decide) gX4_24 dX4_digits_1 c1 rfl (fun q => ?_)
  have f2 := q
  replace k := k q
  exact wp_iret dX4_digits_4 rfl k
theorem bX4_line {d : Nat} {h : jH} {Q : jO → jH → Prop} {a0 : Nat} (k : jOK h → hK h a0 = 3 ∧ (j32 (hI h 203 a0) → Q (.inl (some (jI (hI h 203 a0)))) h)) : jCall d mX4_line [jR a0] h Q := by
  refine jCall_of plX4 (Nat.le_of_ble_eq_true rfl) ?_
  show jWp d mX4_line 0 [(0, jR a0)] [] h Q
  refine jw_ok (fun ok q => ?_)
  replace k := k ok 
  refine wp_aload_n 0 dX4_line_0 rfl ?_
  have c1 := k.1
  replace k := k.2
  refine wp_getI (ci := 2) (j := 3) rfl (by decide) gX4_27 dX4_line_1 c1 rfl (fun q => ?_)
  have f2 := q
  replace k := k q
  exact wp_iret dX4_line_4 rfl k
theorem bX4_clockYear {d : Nat} {h : jH} {Q : jO → jH → Prop} {a0 : Nat} (k : jOK h → hK h a0 = 3 ∧ (j32 (hI h 205 a0) → Q (.inl (some (jI (hI h 205 a0)))) h)) : jCall d mX4_clockYear [jR a0] h Q := by
  refine jCall_of plX4 (Nat.le_of_ble_eq_true rfl) ?_
  show jWp d mX4_clockYear 0 [(0, jR a0)] [] h Q
  refine jw_ok (fun ok q => ?_)
  replace k := k ok 
  refine wp_aload_n 0 dX4_clockYear_0 rfl ?_
  have c1 := k.1
  replace k := k.2
  refine wp_getI (ci := 2) (j := 5) rfl (by decide) gX4_39 dX4_clockYear_1 c1 rfl (fun q => ?_)
  have f2 := q
  replace k := k q
  exact wp_iret dX4_clockYear_4 rfl k
theorem bX4_value {d : Nat} {h : jH} {Q : jO → jH → Prop} {a0 : Nat} (k : jOK h → hK h a0 = 3 ∧ Q (.inl (some (jR (hR h 200 a0)))) h) : jCall d mX4_value [jR a0] h Q := by
  refine jCall_of plX4 (Nat.le_of_ble_eq_true rfl) ?_
  show jWp d mX4_value 0 [(0, jR a0)] [] h Q
  refine jw_ok (fun ok q => ?_)
  replace k := k ok 
  refine wp_aload_n 0 dX4_value_0 rfl ?_
  have c1 := k.1
  replace k := k.2
  refine wp_getR (ci := 2) (j := 0) rfl (by decide) gX4_14 dX4_value_1 c1 rfl ?_
  exact wp_areturn dX4_value_4 rfl k
theorem bX4_family {d : Nat} {h : jH} {Q : jO → jH → Prop} {a0 : Nat} (k : jOK h → hK h a0 = 3 ∧ (j32 (hI h 204 a0) → Q (.inl (some (jI (hI h 204 a0)))) h)) : jCall d mX4_family [jR a0] h Q := by
  refine jCall_of plX4 (Nat.le_of_ble_eq_true rfl) ?_
  show jWp d mX4_family 0 [(0, jR a0)] [] h Q
  refine jw_ok (fun ok q => ?_)
  replace k := k ok 
  refine wp_aload_n 0 dX4_family_0 rfl ?_
  have c1 := k.1
  replace k := k.2
  refine wp_getI (ci := 2) (j := 4) rfl (by decide) gX4_36 dX4_family_1 c1 rfl (fun q => ?_)
  have f2 := q
  replace k := k q
  exact wp_iret dX4_family_4 rfl k
theorem bX4_point {d : Nat} {h : jH} {Q : jO → jH → Prop} {a0 : Nat} (k : jOK h → hK h a0 = 3 ∧ (j32 (hI h 203 a0) → jCall d mX8_hasPoint [jI (hI h 203 a0)] h (fun o h4 => ∃ v4, o = .inl (some (jI v4)) ∧ ((v4 = 0 → Q (.inl (some (jI (-1)))) h4) ∧ (¬ (v4 = 0) → hK h4 a0 = 3 ∧ (j32 (hI h4 201 a0) → 0 ≤ (hI h4 201 a0) ∧ Q (.inl (some (jI ((hI h4 201 a0) % 10)))) h4)))))) : jCall (d + 1) mX4_point [jR a0] h Q := by
  refine jCall_of plX4 (Nat.le_of_ble_eq_true rfl) ?_
  show jWp (d + 1) mX4_point 0 [(0, jR a0)] [] h Q
  refine jw_ok (fun ok q => ?_)
  replace k := k ok 
  refine wp_aload_n 0 dX4_point_0 rfl ?_
  have c1 := k.1
  replace k := k.2
  refine wp_getI (ci := 2) (j := 3) rfl (by decide) gX4_27 dX4_point_1 c1 rfl (fun q => ?_)
  have f2 := q
  replace k := k q
  refine wp_callS (y' := mX8_hasPoint) (st := []) [jI (hI h 203 a0)] rfl fX8_hasPoint kX4_30 nX8_hasPoint dX4_point_4 (Nat.le_of_ble_eq_true rfl) ?_
  refine jCall.mono k (fun o h4 k => ?_)
  obtain ⟨v4, e, k⟩ := k
  subst e
  show jWp (d + 1) mX4_point 7 [(0, jR a0)] [jI v4] h4 Q
  refine wp_if_eq 20 dX4_point_7 rfl (fun q => ?_) (fun q => ?_)
  · replace k := k.1 q
    refine wp_iconst dX4_point_20 ⟨by decide, by decide⟩ ?_
    exact wp_iret dX4_point_21 rfl k
  · replace k := k.2 q
    refine wp_aload_n 0 dX4_point_10 rfl ?_
    have c3 := k.1
    replace k := k.2
    refine wp_getI (ci := 2) (j := 1) rfl (by decide) gX4_20 dX4_point_11 c3 rfl (fun q => ?_)
    have f4 := q
    replace k := k q
    refine wp_bipush dX4_point_14 ⟨by decide, by decide⟩ ?_
    have c5 := k.1
    replace k := k.2
    refine wp_irem dX4_point_16 c5 (by decide) ?_
    refine wp_goto 21 dX4_point_17 rfl ?_
    exact wp_iret dX4_point_21 rfl k
theorem bX4_isFixed {d : Nat} {h : jH} {Q : jO → jH → Prop} {a0 : Nat} (k : jOK h → hK h a0 = 3 ∧ (j32 (hI h 201 a0) → (j32 (hI h 202 a0) → jCall d mX8_isFixed [jI (hI h 201 a0), jI (hI h 202 a0)] h (fun o h8 => ∃ v8, o = .inl (some (jI v8)) ∧ (0 ≤ v8 ∧ v8 ≤ 1) ∧ Q (.inl (some (jI v8))) h8)))) : jCall (d + 1) mX4_isFixed [jR a0] h Q := by
  refine jCall_of plX4 (Nat.le_of_ble_eq_true rfl) ?_
  show jWp (d + 1) mX4_isFixed 0 [(0, jR a0)] [] h Q
  refine jw_ok (fun ok q => ?_)
  replace k := k ok 
  refine wp_aload_n 0 dX4_isFixed_0 rfl ?_
  have c1 := k.1
  replace k := k.2
  refine wp_getI (ci := 2) (j := 1) rfl (by decide) gX4_20 dX4_isFixed_1 c1 rfl (fun q => ?_)
  have f2 := q
  replace k := k q
  refine wp_aload_n 0 dX4_isFixed_4 rfl ?_
  refine wp_getI (ci := 2) (j := 2) rfl (by decide) gX4_24 dX4_isFixed_5 c1 rfl (fun q => ?_)
  have f3 := q
  replace k := k q
  refine wp_callS (y' := mX8_isFixed) (st := []) [jI (hI h 201 a0), jI (hI h 202 a0)] rfl fX8_isFixed kX4_53 nX8_isFixed dX4_isFixed_8 (Nat.le_of_ble_eq_true rfl) ?_
  refine jCall.mono k (fun o h8 k => ?_)
  obtain ⟨v8, e, k⟩ := k
  subst e
  show jWp (d + 1) mX4_isFixed 11 [(0, jR a0)] [jI v8] h8 Q
  have c4 := k.1
  replace k := k.2
  exact wp_zreturn dX4_isFixed_11 rfl c4.1 c4.2 k
theorem bX4_parts {d : Nat} {h : jH} {Q : jO → jH → Prop} {a0 : Nat} (k : jOK h → jWp (d + 1) mX4_parts 4 [(0, jR a0), (1, jI 0), (2, jI 0)] [] h Q) : jCall (d + 1) mX4_parts [jR a0] h Q := by
  refine jCall_of plX4 (Nat.le_of_ble_eq_true rfl) ?_
  show jWp (d + 1) mX4_parts 0 [(0, jR a0)] [] h Q
  refine jw_ok (fun ok q => ?_)
  replace k := k ok 
  refine wp_iconst dX4_parts_0 ⟨by decide, by decide⟩ ?_
  refine wp_istore_n [1, 0] (ls' := [(0, jR a0), (1, jI 0)]) dX4_parts_1 (by decide) rfl ?_
  refine wp_iconst dX4_parts_2 ⟨by decide, by decide⟩ ?_
  refine wp_istore_n [1, 2, 0] (ls' := [(0, jR a0), (1, jI 0), (2, jI 0)]) dX4_parts_3 (by decide) rfl ?_
  exact k
theorem bX4_parts_4 {d : Nat} {h : jH} {Q : jO → jH → Prop} {a0 : Nat} {a1 : Int} {a2 : Int} (k : jOK h → j32 a1 → j32 a2 → ((4 ≤ a2 → Q (.inl (some (jI a1))) h) ∧ (¬ (4 ≤ a2) → hK h a0 = 3 ∧ jCall d mX4_partBegin [jR a0, jI a2] h (fun o h11 => ∃ v11, o = .inl (some (jI v11)) ∧ ((v11 = (-1) → j32 (a2 + 1) ∧ jWp (d + 1) mX4_parts 4 [(0, jR a0), (1, jI a1), (2, jI (a2 + 1))] [] h11 Q) ∧ (¬ (v11 = (-1)) → j32 (a1 + 1) ∧ j32 (a2 + 1) ∧ jWp (d + 1) mX4_parts 4 [(0, jR a0), (1, jI (a1 + 1)), (2, jI (a2 + 1))] [] h11 Q)))))) : jWp (d + 1) mX4_parts 4 [(0, jR a0), (1, jI a1), (2, jI a2)] [] h Q := by
  refine jw_ok (fun ok q => ?_)
  replace k := k ok (q _ (.tail _ (.head _))) (q _ (.tail _ (.tail _ (.head _))))
  refine wp_iload_n 2 dX4_parts_4 rfl ?_
  refine wp_iconst dX4_parts_5 ⟨by decide, by decide⟩ ?_
  refine wp_icmp_ge 27 dX4_parts_6 rfl (fun q => ?_) (fun q => ?_)
  · replace k := k.1 q
    refine wp_iload_n 1 dX4_parts_27 rfl ?_
    exact wp_iret dX4_parts_28 rfl k
  · replace k := k.2 q
    refine wp_aload_n 0 dX4_parts_9 rfl ?_
    refine wp_iload_n 2 dX4_parts_10 rfl ?_
    have c1 := k.1
    replace k := k.2
    refine wp_callV (ci := 2) (y' := mX4_partBegin) (st := []) [jI a2] rfl rfl rfl fX4_partBegin kX4_57 nX4_partBegin dX4_parts_11 (Nat.le_of_ble_eq_true rfl) c1 ?_
    refine jCall.mono k (fun o h11 k => ?_)
    obtain ⟨v11, e, k⟩ := k
    subst e
    show jWp (d + 1) mX4_parts 14 [(0, jR a0), (1, jI a1), (2, jI a2)] [jI v11] h11 Q
    refine wp_iconst dX4_parts_14 ⟨by decide, by decide⟩ ?_
    refine wp_icmp_eq 21 dX4_parts_15 rfl (fun q => ?_) (fun q => ?_)
    · replace k := k.1 q
      have c2 := k.1
      replace k := k.2
      refine wp_iinc 2 [1, 2, 0] (ls' := [(0, jR a0), (1, jI a1), (2, jI (a2 + 1))]) dX4_parts_21 rfl c2 ⟨by decide, by decide⟩ (by decide) rfl ?_
      refine wp_goto 4 dX4_parts_24 rfl ?_
      exact k
    · replace k := k.2 q
      have c3 := k.1
      replace k := k.2
      refine wp_iinc 1 [1, 0, 2] (ls' := [(0, jR a0), (1, jI (a1 + 1)), (2, jI a2)]) dX4_parts_18 rfl c3 ⟨by decide, by decide⟩ (by decide) rfl ?_
      have c4 := k.1
      replace k := k.2
      refine wp_iinc 2 [1, 2, 0] (ls' := [(0, jR a0), (1, jI (a1 + 1)), (2, jI (a2 + 1))]) dX4_parts_21 rfl c4 ⟨by decide, by decide⟩ (by decide) rfl ?_
      refine wp_goto 4 dX4_parts_24 rfl ?_
      exact k
theorem bX4_partBegin {d : Nat} {h : jH} {Q : jO → jH → Prop} {a0 : Nat} {a1 : Int} (k : jOK h → j32 a1 → hK h a0 = 3 ∧ (j32 (hI h 203 a0) → jCall d mX8_partAt [jI (hI h 203 a0), jI a1] h (fun o h5 => ∃ v5, o = .inl (some (jI v5)) ∧ ((v5 ≠ 0 → jWp (d + 1) mX4_partBegin 17 [(0, jR a0), (1, jI a1), (2, jI 0), (3, jI 0)] [] h5 Q) ∧ (v5 = 0 → Q (.inl (some (jI (-1)))) h5))))) : jCall (d + 1) mX4_partBegin [jR a0, jI a1] h Q := by
  refine jCall_of plX4 (Nat.le_of_ble_eq_true rfl) ?_
  show jWp (d + 1) mX4_partBegin 0 [(0, jR a0), (1, jI a1)] [] h Q
  refine jw_ok (fun ok q => ?_)
  replace k := k ok (q _ (.tail _ (.head _)))
  refine wp_aload_n 0 dX4_partBegin_0 rfl ?_
  have c1 := k.1
  replace k := k.2
  refine wp_getI (ci := 2) (j := 3) rfl (by decide) gX4_27 dX4_partBegin_1 c1 rfl (fun q => ?_)
  have f2 := q
  replace k := k q
  refine wp_iload_n 1 dX4_partBegin_4 rfl ?_
  refine wp_callS (y' := mX8_partAt) (st := []) [jI (hI h 203 a0), jI a1] rfl fX8_partAt kX4_61 nX8_partAt dX4_partBegin_5 (Nat.le_of_ble_eq_true rfl) ?_
  refine jCall.mono k (fun o h5 k => ?_)
  obtain ⟨v5, e, k⟩ := k
  subst e
  show jWp (d + 1) mX4_partBegin 8 [(0, jR a0), (1, jI a1)] [jI v5] h5 Q
  refine wp_if_ne 13 dX4_partBegin_8 rfl (fun q => ?_) (fun q => ?_)
  · replace k := k.1 q
    refine wp_iconst dX4_partBegin_13 ⟨by decide, by decide⟩ ?_
    refine wp_istore_n [1, 2, 0] (ls' := [(0, jR a0), (1, jI a1), (2, jI 0)]) dX4_partBegin_14 (by decide) rfl ?_
    refine wp_iconst dX4_partBegin_15 ⟨by decide, by decide⟩ ?_
    refine wp_istore_n [1, 2, 3, 0] (ls' := [(0, jR a0), (1, jI a1), (2, jI 0), (3, jI 0)]) dX4_partBegin_16 (by decide) rfl ?_
    exact k
  · replace k := k.2 q
    refine wp_iconst dX4_partBegin_11 ⟨by decide, by decide⟩ ?_
    exact wp_iret dX4_partBegin_12 rfl k
theorem bX4_partBegin_17 {d : Nat} {h : jH} {Q : jO → jH → Prop} {a0 : Nat} {a1 : Int} {a2 : Int} {a3 : Int} (k : jOK h → j32 a1 → j32 a2 → j32 a3 → ((a1 ≤ a3 → hK h a0 = 3 ∧ hK h (hR h 200 a0) = 6 ∧ jCall d mX7_count [jR (hR h 200 a0)] h (fun o h47 => ∃ v47, o = .inl (some (jI v47)) ∧ ((v47 ≤ a2 → Q (.inl (some (jI (-1)))) h47) ∧ (¬ (v47 ≤ a2) → Q (.inl (some (jI a2))) h47)))) ∧ (¬ (a1 ≤ a3) → hK h a0 = 3 ∧ (j32 (hI h 203 a0) → jCall d mX8_partAt [jI (hI h 203 a0), jI a3] h (fun o h28 => ∃ v28, o = .inl (some (jI v28)) ∧ jCall d mX8_mostBytes [jI v28] h28 (fun o h31 => ∃ v31, o = .inl (some (jI v31)) ∧ j32 (a2 + v31) ∧ j32 (a3 + 1) ∧ jWp (d + 1) mX4_partBegin 17 [(0, jR a0), (1, jI a1), (2, jI (a2 + v31)), (3, jI (a3 + 1))] [] h31 Q)))))) : jWp (d + 1) mX4_partBegin 17 [(0, jR a0), (1, jI a1), (2, jI a2), (3, jI a3)] [] h Q := by
  refine jw_ok (fun ok q => ?_)
  replace k := k ok (q _ (.tail _ (.head _))) (q _ (.tail _ (.tail _ (.head _)))) (q _ (.tail _ (.tail _ (.tail _ (.head _)))))
  refine wp_iload_n 3 dX4_partBegin_17 rfl ?_
  refine wp_iload_n 1 dX4_partBegin_18 rfl ?_
  refine wp_icmp_ge 42 dX4_partBegin_19 rfl (fun q => ?_) (fun q => ?_)
  · replace k := k.1 q
    refine wp_iload_n 2 dX4_partBegin_42 rfl ?_
    refine wp_aload_n 0 dX4_partBegin_43 rfl ?_
    have c1 := k.1
    replace k := k.2
    refine wp_getR (ci := 2) (j := 0) rfl (by decide) gX4_14 dX4_partBegin_44 c1 rfl ?_
    have c2 := k.1
    replace k := k.2
    refine wp_callV (ci := 5) (y' := mX7_count) (st := [jI a2]) [] rfl rfl rfl fX7_count kX4_68 nX7_count dX4_partBegin_47 (Nat.le_of_ble_eq_true rfl) c2 ?_
    refine jCall.mono k (fun o h47 k => ?_)
    obtain ⟨v47, e, k⟩ := k
    subst e
    show jWp (d + 1) mX4_partBegin 50 [(0, jR a0), (1, jI a1), (2, jI a2), (3, jI a3)] [jI v47, jI a2] h47 Q
    refine wp_icmp_ge 57 dX4_partBegin_50 rfl (fun q => ?_) (fun q => ?_)
    · replace k := k.1 q
      refine wp_iconst dX4_partBegin_57 ⟨by decide, by decide⟩ ?_
      exact wp_iret dX4_partBegin_58 rfl k
    · replace k := k.2 q
      refine wp_iload_n 2 dX4_partBegin_53 rfl ?_
      refine wp_goto 58 dX4_partBegin_54 rfl ?_
      exact wp_iret dX4_partBegin_58 rfl k
  · replace k := k.2 q
    refine wp_iload_n 2 dX4_partBegin_22 rfl ?_
    refine wp_aload_n 0 dX4_partBegin_23 rfl ?_
    have c3 := k.1
    replace k := k.2
    refine wp_getI (ci := 2) (j := 3) rfl (by decide) gX4_27 dX4_partBegin_24 c3 rfl (fun q => ?_)
    have f4 := q
    replace k := k q
    refine wp_iload_n 3 dX4_partBegin_27 rfl ?_
    refine wp_callS (y' := mX8_partAt) (st := [jI a2]) [jI (hI h 203 a0), jI a3] rfl fX8_partAt kX4_61 nX8_partAt dX4_partBegin_28 (Nat.le_of_ble_eq_true rfl) ?_
    refine jCall.mono k (fun o h28 k => ?_)
    obtain ⟨v28, e, k⟩ := k
    subst e
    show jWp (d + 1) mX4_partBegin 31 [(0, jR a0), (1, jI a1), (2, jI a2), (3, jI a3)] [jI v28, jI a2] h28 Q
    refine wp_callS (y' := mX8_mostBytes) (st := [jI a2]) [jI v28] rfl fX8_mostBytes kX4_65 nX8_mostBytes dX4_partBegin_31 (Nat.le_of_ble_eq_true rfl) ?_
    refine jCall.mono k (fun o h31 k => ?_)
    obtain ⟨v31, e, k⟩ := k
    subst e
    show jWp (d + 1) mX4_partBegin 34 [(0, jR a0), (1, jI a1), (2, jI a2), (3, jI a3)] [jI v31, jI a2] h31 Q
    have c5 := k.1
    replace k := k.2
    refine wp_iadd dX4_partBegin_34 c5 ?_
    refine wp_istore_n [1, 2, 0, 3] (ls' := [(0, jR a0), (1, jI a1), (2, jI (a2 + v31)), (3, jI a3)]) dX4_partBegin_35 (by decide) rfl ?_
    have c6 := k.1
    replace k := k.2
    refine wp_iinc 3 [1, 2, 3, 0] (ls' := [(0, jR a0), (1, jI a1), (2, jI (a2 + v31)), (3, jI (a3 + 1))]) dX4_partBegin_36 rfl c6 ⟨by decide, by decide⟩ (by decide) rfl ?_
    refine wp_goto 17 dX4_partBegin_39 rfl ?_
    exact k
theorem bX4_partBytes {d : Nat} {h : jH} {Q : jO → jH → Prop} {a0 : Nat} {a1 : Int} (k : jOK h → j32 a1 → hK h a0 = 3 ∧ jCall d mX4_partBegin [jR a0, jI a1] h (fun o h2 => ∃ v2, o = .inl (some (jI v2)) ∧ ((v2 ≠ (-1) → hK h2 a0 = 3 ∧ (j32 (hI h2 203 a0) → jCall d mX8_partAt [jI (hI h2 203 a0), jI a1] h2 (fun o h18 => ∃ v18, o = .inl (some (jI v18)) ∧ jCall d mX8_mostBytes [jI v18] h18 (fun o h21 => ∃ v21, o = .inl (some (jI v21)) ∧ hK h21 a0 = 3 ∧ hK h21 (hR h21 200 a0) = 6 ∧ jCall d mX7_count [jR (hR h21 200 a0)] h21 (fun o h28 => ∃ v28, o = .inl (some (jI v28)) ∧ j32 (v28 - v2) ∧ jCall d mJ9_min_7cf53 [jI v21, jI (v28 - v2)] h28 (fun o h33 => ∃ v33, o = .inl (some (jI v33)) ∧ Q (.inl (some (jI v33))) h33)))))) ∧ (v2 = (-1) → Q (.inl (some (jI (-1)))) h2)))) : jCall (d + 1) mX4_partBytes [jR a0, jI a1] h Q := by
  refine jCall_of plX4 (Nat.le_of_ble_eq_true rfl) ?_
  show jWp (d + 1) mX4_partBytes 0 [(0, jR a0), (1, jI a1)] [] h Q
  refine jw_ok (fun ok q => ?_)
  replace k := k ok (q _ (.tail _ (.head _)))
  refine wp_aload_n 0 dX4_partBytes_0 rfl ?_
  refine wp_iload_n 1 dX4_partBytes_1 rfl ?_
  have c1 := k.1
  replace k := k.2
  refine wp_callV (ci := 2) (y' := mX4_partBegin) (st := []) [jI a1] rfl rfl rfl fX4_partBegin kX4_57 nX4_partBegin dX4_partBytes_2 (Nat.le_of_ble_eq_true rfl) c1 ?_
  refine jCall.mono k (fun o h2 k => ?_)
  obtain ⟨v2, e, k⟩ := k
  subst e
  show jWp (d + 1) mX4_partBytes 5 [(0, jR a0), (1, jI a1)] [jI v2] h2 Q
  refine wp_istore_n [1, 2, 0] (ls' := [(0, jR a0), (1, jI a1), (2, jI v2)]) dX4_partBytes_5 (by decide) rfl ?_
  refine wp_iload_n 2 dX4_partBytes_6 rfl ?_
  refine wp_iconst dX4_partBytes_7 ⟨by decide, by decide⟩ ?_
  refine wp_icmp_ne 13 dX4_partBytes_8 rfl (fun q => ?_) (fun q => ?_)
  · replace k := k.1 q
    refine wp_aload_n 0 dX4_partBytes_13 rfl ?_
    have c2 := k.1
    replace k := k.2
    refine wp_getI (ci := 2) (j := 3) rfl (by decide) gX4_27 dX4_partBytes_14 c2 rfl (fun q => ?_)
    have f3 := q
    replace k := k q
    refine wp_iload_n 1 dX4_partBytes_17 rfl ?_
    refine wp_callS (y' := mX8_partAt) (st := []) [jI (hI h2 203 a0), jI a1] rfl fX8_partAt kX4_61 nX8_partAt dX4_partBytes_18 (Nat.le_of_ble_eq_true rfl) ?_
    refine jCall.mono k (fun o h18 k => ?_)
    obtain ⟨v18, e, k⟩ := k
    subst e
    show jWp (d + 1) mX4_partBytes 21 [(0, jR a0), (1, jI a1), (2, jI v2)] [jI v18] h18 Q
    refine wp_callS (y' := mX8_mostBytes) (st := []) [jI v18] rfl fX8_mostBytes kX4_65 nX8_mostBytes dX4_partBytes_21 (Nat.le_of_ble_eq_true rfl) ?_
    refine jCall.mono k (fun o h21 k => ?_)
    obtain ⟨v21, e, k⟩ := k
    subst e
    show jWp (d + 1) mX4_partBytes 24 [(0, jR a0), (1, jI a1), (2, jI v2)] [jI v21] h21 Q
    refine wp_aload_n 0 dX4_partBytes_24 rfl ?_
    have c4 := k.1
    replace k := k.2
    refine wp_getR (ci := 2) (j := 0) rfl (by decide) gX4_14 dX4_partBytes_25 c4 rfl ?_
    have c5 := k.1
    replace k := k.2
    refine wp_callV (ci := 5) (y' := mX7_count) (st := [jI v21]) [] rfl rfl rfl fX7_count kX4_68 nX7_count dX4_partBytes_28 (Nat.le_of_ble_eq_true rfl) c5 ?_
    refine jCall.mono k (fun o h28 k => ?_)
    obtain ⟨v28, e, k⟩ := k
    subst e
    show jWp (d + 1) mX4_partBytes 31 [(0, jR a0), (1, jI a1), (2, jI v2)] [jI v28, jI v21] h28 Q
    refine wp_iload_n 2 dX4_partBytes_31 rfl ?_
    have c6 := k.1
    replace k := k.2
    refine wp_isub dX4_partBytes_32 c6 ?_
    refine wp_callS (y' := mJ9_min_7cf53) (st := []) [jI v21, jI (v28 - v2)] rfl fJ9_min_7cf53 kX4_72 nJ9_min_7cf53 dX4_partBytes_33 (Nat.le_of_ble_eq_true rfl) ?_
    refine jCall.mono k (fun o h33 k => ?_)
    obtain ⟨v33, e, k⟩ := k
    subst e
    show jWp (d + 1) mX4_partBytes 36 [(0, jR a0), (1, jI a1), (2, jI v2)] [jI v33] h33 Q
    exact wp_iret dX4_partBytes_36 rfl k
  · replace k := k.2 q
    refine wp_iconst dX4_partBytes_11 ⟨by decide, by decide⟩ ?_
    exact wp_iret dX4_partBytes_12 rfl k
theorem bX4_partSort {d : Nat} {h : jH} {Q : jO → jH → Prop} {a0 : Nat} {a1 : Int} (k : jOK h → j32 a1 → hK h a0 = 3 ∧ (j32 (hI h 203 a0) → jCall d mX8_partAt [jI (hI h 203 a0), jI a1] h (fun o h5 => ∃ v5, o = .inl (some (jI v5)) ∧ jCall d mX8_sort [jI v5] h5 (fun o h8 => ∃ v8, o = .inl (some (jI v8)) ∧ Q (.inl (some (jI v8))) h8)))) : jCall (d + 1) mX4_partSort [jR a0, jI a1] h Q := by
  refine jCall_of plX4 (Nat.le_of_ble_eq_true rfl) ?_
  show jWp (d + 1) mX4_partSort 0 [(0, jR a0), (1, jI a1)] [] h Q
  refine jw_ok (fun ok q => ?_)
  replace k := k ok (q _ (.tail _ (.head _)))
  refine wp_aload_n 0 dX4_partSort_0 rfl ?_
  have c1 := k.1
  replace k := k.2
  refine wp_getI (ci := 2) (j := 3) rfl (by decide) gX4_27 dX4_partSort_1 c1 rfl (fun q => ?_)
  have f2 := q
  replace k := k q
  refine wp_iload_n 1 dX4_partSort_4 rfl ?_
  refine wp_callS (y' := mX8_partAt) (st := []) [jI (hI h 203 a0), jI a1] rfl fX8_partAt kX4_61 nX8_partAt dX4_partSort_5 (Nat.le_of_ble_eq_true rfl) ?_
  refine jCall.mono k (fun o h5 k => ?_)
  obtain ⟨v5, e, k⟩ := k
  subst e
  show jWp (d + 1) mX4_partSort 8 [(0, jR a0), (1, jI a1)] [jI v5] h5 Q
  refine wp_callS (y' := mX8_sort) (st := []) [jI v5] rfl fX8_sort kX4_77 nX8_sort dX4_partSort_8 (Nat.le_of_ble_eq_true rfl) ?_
  refine jCall.mono k (fun o h8 k => ?_)
  obtain ⟨v8, e, k⟩ := k
  subst e
  show jWp (d + 1) mX4_partSort 11 [(0, jR a0), (1, jI a1)] [jI v8] h8 Q
  exact wp_iret dX4_partSort_11 rfl k
theorem bX4_writeAi {d : Nat} {h : jH} {Q : jO → jH → Prop} {a0 : Nat} {a1 : Nat} (k : jOK h → hK h a0 = 3 ∧ (j32 (hI h 202 a0) → (((hI h 202 a0) ≠ 4 → (((hI h 202 a0) ≠ 3 → jWp (d + 1) mX4_writeAi 32 [(0, jR a0), (1, jR a1), (2, jI 10), (3, jI 0)] [] h Q) ∧ ((hI h 202 a0) = 3 → jWp (d + 1) mX4_writeAi 32 [(0, jR a0), (1, jR a1), (2, jI 100), (3, jI 0)] [] h Q))) ∧ ((hI h 202 a0) = 4 → jWp (d + 1) mX4_writeAi 32 [(0, jR a0), (1, jR a1), (2, jI 1000), (3, jI 0)] [] h Q)))) : jCall (d + 1) mX4_writeAi [jR a0, jR a1] h Q := by
  refine jCall_of plX4 (Nat.le_of_ble_eq_true rfl) ?_
  show jWp (d + 1) mX4_writeAi 0 [(0, jR a0), (1, jR a1)] [] h Q
  refine jw_ok (fun ok q => ?_)
  replace k := k ok 
  refine wp_aload_n 0 dX4_writeAi_0 rfl ?_
  have c1 := k.1
  replace k := k.2
  refine wp_getI (ci := 2) (j := 2) rfl (by decide) gX4_24 dX4_writeAi_1 c1 rfl (fun q => ?_)
  have f2 := q
  replace k := k q
  refine wp_iconst dX4_writeAi_4 ⟨by decide, by decide⟩ ?_
  refine wp_icmp_ne 14 dX4_writeAi_5 rfl (fun q => ?_) (fun q => ?_)
  · replace k := k.1 q
    refine wp_aload_n 0 dX4_writeAi_14 rfl ?_
    refine wp_getI (ci := 2) (j := 2) rfl (by decide) gX4_24 dX4_writeAi_15 c1 rfl (fun q => ?_)
    refine wp_iconst dX4_writeAi_18 ⟨by decide, by decide⟩ ?_
    refine wp_icmp_ne 27 dX4_writeAi_19 rfl (fun q => ?_) (fun q => ?_)
    · replace k := k.1 q
      refine wp_bipush dX4_writeAi_27 ⟨by decide, by decide⟩ ?_
      refine wp_istore_n [1, 2, 0] (ls' := [(0, jR a0), (1, jR a1), (2, jI 10)]) dX4_writeAi_29 (by decide) rfl ?_
      refine wp_iconst dX4_writeAi_30 ⟨by decide, by decide⟩ ?_
      refine wp_istore_n [1, 2, 3, 0] (ls' := [(0, jR a0), (1, jR a1), (2, jI 10), (3, jI 0)]) dX4_writeAi_31 (by decide) rfl ?_
      exact k
    · replace k := k.2 q
      refine wp_bipush dX4_writeAi_22 ⟨by decide, by decide⟩ ?_
      refine wp_goto 29 dX4_writeAi_24 rfl ?_
      refine wp_istore_n [1, 2, 0] (ls' := [(0, jR a0), (1, jR a1), (2, jI 100)]) dX4_writeAi_29 (by decide) rfl ?_
      refine wp_iconst dX4_writeAi_30 ⟨by decide, by decide⟩ ?_
      refine wp_istore_n [1, 2, 3, 0] (ls' := [(0, jR a0), (1, jR a1), (2, jI 100), (3, jI 0)]) dX4_writeAi_31 (by decide) rfl ?_
      exact k
  · replace k := k.2 q
    refine wp_sipush dX4_writeAi_8 ⟨by decide, by decide⟩ ?_
    refine wp_goto 29 dX4_writeAi_11 rfl ?_
    refine wp_istore_n [1, 2, 0] (ls' := [(0, jR a0), (1, jR a1), (2, jI 1000)]) dX4_writeAi_29 (by decide) rfl ?_
    refine wp_iconst dX4_writeAi_30 ⟨by decide, by decide⟩ ?_
    refine wp_istore_n [1, 2, 3, 0] (ls' := [(0, jR a0), (1, jR a1), (2, jI 1000), (3, jI 0)]) dX4_writeAi_31 (by decide) rfl ?_
    exact k
theorem bX4_writeAi_32 {d : Nat} {h : jH} {Q : jO → jH → Prop} {a0 : Nat} {a1 : Nat} {a2 : Int} {a3 : Int} (k : jOK h → j32 a2 → j32 a3 → hK h a0 = 3 ∧ (j32 (hI h 202 a0) → (((hI h 202 a0) ≤ a3 → Q (.inl none) h) ∧ (¬ ((hI h 202 a0) ≤ a3) → (j32 (hI h 201 a0) → 0 ≤ (hI h 201 a0) ∧ 0 < a2 ∧ 0 ≤ ((hI h 201 a0) / a2) ∧ j32 (48 + (((hI h 201 a0) / a2) % 10)) ∧ hK h a1 = 6 ∧ jCall d mX7_put [jR a1, jI (48 + (((hI h 201 a0) / a2) % 10))] h (fun o h53 => o = .inl none ∧ 0 ≤ a2 ∧ jCall d mJ9_max_7cf53 [jI (a2 / 10), jI 1] h53 (fun o h61 => ∃ v61, o = .inl (some (jI v61)) ∧ j32 (a3 + 1) ∧ jWp (d + 1) mX4_writeAi 32 [(0, jR a0), (1, jR a1), (2, jI v61), (3, jI (a3 + 1))] [] h61 Q))))))) : jWp (d + 1) mX4_writeAi 32 [(0, jR a0), (1, jR a1), (2, jI a2), (3, jI a3)] [] h Q := by
  refine jw_ok (fun ok q => ?_)
  replace k := k ok (q _ (.tail _ (.tail _ (.head _)))) (q _ (.tail _ (.tail _ (.tail _ (.head _)))))
  refine wp_iload_n 3 dX4_writeAi_32 rfl ?_
  refine wp_aload_n 0 dX4_writeAi_33 rfl ?_
  have c1 := k.1
  replace k := k.2
  refine wp_getI (ci := 2) (j := 2) rfl (by decide) gX4_24 dX4_writeAi_34 c1 rfl (fun q => ?_)
  have f2 := q
  replace k := k q
  refine wp_icmp_ge 71 dX4_writeAi_37 rfl (fun q => ?_) (fun q => ?_)
  · replace k := k.1 q
    exact wp_return dX4_writeAi_71 rfl k
  · replace k := k.2 q
    refine wp_aload_n 1 dX4_writeAi_40 rfl ?_
    refine wp_bipush dX4_writeAi_41 ⟨by decide, by decide⟩ ?_
    refine wp_aload_n 0 dX4_writeAi_43 rfl ?_
    refine wp_getI (ci := 2) (j := 1) rfl (by decide) gX4_20 dX4_writeAi_44 c1 rfl (fun q => ?_)
    have f3 := q
    replace k := k q
    refine wp_iload_n 2 dX4_writeAi_47 rfl ?_
    have c4 := k.1
    replace k := k.2
    have c5 := k.1
    replace k := k.2
    refine wp_idiv dX4_writeAi_48 c4 c5 ?_
    refine wp_bipush dX4_writeAi_49 ⟨by decide, by decide⟩ ?_
    have c6 := k.1
    replace k := k.2
    refine wp_irem dX4_writeAi_51 c6 (by decide) ?_
    have c7 := k.1
    replace k := k.2
    refine wp_iadd dX4_writeAi_52 c7 ?_
    have c8 := k.1
    replace k := k.2
    refine wp_callV (ci := 5) (y' := mX7_put) (st := []) [jI (48 + (((hI h 201 a0) / a2) % 10))] rfl rfl rfl fX7_put kX4_80 nX7_put dX4_writeAi_53 (Nat.le_of_ble_eq_true rfl) c8 ?_
    refine jCall.mono k (fun o h53 k => ?_)
    obtain ⟨e, k⟩ := k
    subst e
    show jWp (d + 1) mX4_writeAi 56 [(0, jR a0), (1, jR a1), (2, jI a2), (3, jI a3)] [] h53 Q
    refine wp_iload_n 2 dX4_writeAi_56 rfl ?_
    refine wp_bipush dX4_writeAi_57 ⟨by decide, by decide⟩ ?_
    have c9 := k.1
    replace k := k.2
    refine wp_idiv dX4_writeAi_59 c9 (by decide) ?_
    refine wp_iconst dX4_writeAi_60 ⟨by decide, by decide⟩ ?_
    refine wp_callS (y' := mJ9_max_7cf53) (st := []) [jI (a2 / 10), jI 1] rfl fJ9_max_7cf53 kX4_83 nJ9_max_7cf53 dX4_writeAi_61 (Nat.le_of_ble_eq_true rfl) ?_
    refine jCall.mono k (fun o h61 k => ?_)
    obtain ⟨v61, e, k⟩ := k
    subst e
    show jWp (d + 1) mX4_writeAi 64 [(0, jR a0), (1, jR a1), (2, jI a2), (3, jI a3)] [jI v61] h61 Q
    refine wp_istore_n [1, 2, 0, 3] (ls' := [(0, jR a0), (1, jR a1), (2, jI v61), (3, jI a3)]) dX4_writeAi_64 (by decide) rfl ?_
    have c10 := k.1
    replace k := k.2
    refine wp_iinc 3 [1, 2, 3, 0] (ls' := [(0, jR a0), (1, jR a1), (2, jI v61), (3, jI (a3 + 1))]) dX4_writeAi_65 rfl c10 ⟨by decide, by decide⟩ (by decide) rfl ?_
    refine wp_goto 32 dX4_writeAi_68 rfl ?_
    exact k
theorem bX4_writeInBrackets {d : Nat} {h : jH} {Q : jO → jH → Prop} {a0 : Nat} {a1 : Nat} (k : jOK h → hK h a1 = 6 ∧ jCall d mX7_put [jR a1, jI 40] h (fun o h3 => o = .inl none ∧ hK h3 a0 = 3 ∧ jCall d mX4_writeAi [jR a0, jR a1] h3 (fun o h8 => o = .inl none ∧ hK h8 a1 = 6 ∧ jCall d mX7_put [jR a1, jI 41] h8 (fun o h14 => o = .inl none ∧ jWp (d + 1) mX4_writeInBrackets 19 [(0, jR a0), (1, jR a1), (2, jI 0)] [] h14 Q)))) : jCall (d + 1) mX4_writeInBrackets [jR a0, jR a1] h Q := by
  refine jCall_of plX4 (Nat.le_of_ble_eq_true rfl) ?_
  show jWp (d + 1) mX4_writeInBrackets 0 [(0, jR a0), (1, jR a1)] [] h Q
  refine jw_ok (fun ok q => ?_)
  replace k := k ok 
  refine wp_aload_n 1 dX4_writeInBrackets_0 rfl ?_
  refine wp_bipush dX4_writeInBrackets_1 ⟨by decide, by decide⟩ ?_
  have c1 := k.1
  replace k := k.2
  refine wp_callV (ci := 5) (y' := mX7_put) (st := []) [jI 40] rfl rfl rfl fX7_put kX4_80 nX7_put dX4_writeInBrackets_3 (Nat.le_of_ble_eq_true rfl) c1 ?_
  refine jCall.mono k (fun o h3 k => ?_)
  obtain ⟨e, k⟩ := k
  subst e
  show jWp (d + 1) mX4_writeInBrackets 6 [(0, jR a0), (1, jR a1)] [] h3 Q
  refine wp_aload_n 0 dX4_writeInBrackets_6 rfl ?_
  refine wp_aload_n 1 dX4_writeInBrackets_7 rfl ?_
  have c2 := k.1
  replace k := k.2
  refine wp_callV (ci := 2) (y' := mX4_writeAi) (st := []) [jR a1] rfl rfl rfl fX4_writeAi kX4_86 nX4_writeAi dX4_writeInBrackets_8 (Nat.le_of_ble_eq_true rfl) c2 ?_
  refine jCall.mono k (fun o h8 k => ?_)
  obtain ⟨e, k⟩ := k
  subst e
  show jWp (d + 1) mX4_writeInBrackets 11 [(0, jR a0), (1, jR a1)] [] h8 Q
  refine wp_aload_n 1 dX4_writeInBrackets_11 rfl ?_
  refine wp_bipush dX4_writeInBrackets_12 ⟨by decide, by decide⟩ ?_
  have c3 := k.1
  replace k := k.2
  refine wp_callV (ci := 5) (y' := mX7_put) (st := []) [jI 41] rfl rfl rfl fX7_put kX4_80 nX7_put dX4_writeInBrackets_14 (Nat.le_of_ble_eq_true rfl) c3 ?_
  refine jCall.mono k (fun o h14 k => ?_)
  obtain ⟨e, k⟩ := k
  subst e
  show jWp (d + 1) mX4_writeInBrackets 17 [(0, jR a0), (1, jR a1)] [] h14 Q
  refine wp_iconst dX4_writeInBrackets_17 ⟨by decide, by decide⟩ ?_
  refine wp_istore_n [1, 2, 0] (ls' := [(0, jR a0), (1, jR a1), (2, jI 0)]) dX4_writeInBrackets_18 (by decide) rfl ?_
  exact k
theorem bX4_writeInBrackets_19 {d : Nat} {h : jH} {Q : jO → jH → Prop} {a0 : Nat} {a1 : Nat} {a2 : Int} (k : jOK h → j32 a2 → hK h a0 = 3 ∧ hK h (hR h 200 a0) = 6 ∧ jCall d mX7_count [jR (hR h 200 a0)] h (fun o h24 => ∃ v24, o = .inl (some (jI v24)) ∧ ((v24 ≤ a2 → Q (.inl none) h24) ∧ (¬ (v24 ≤ a2) → hK h24 a0 = 3 ∧ hK h24 (hR h24 200 a0) = 6 ∧ jCall d mX7_at [jR (hR h24 200 a0), jI a2] h24 (fun o h35 => ∃ v35, o = .inl (some (jI v35)) ∧ ((v35 ≠ 40 → hK h35 a0 = 3 ∧ hK h35 (hR h35 200 a0) = 6 ∧ jCall d mX7_at [jR (hR h35 200 a0), jI a2] h35 (fun o h55 => ∃ v55, o = .inl (some (jI v55)) ∧ hK h55 a1 = 6 ∧ jCall d mX7_put [jR a1, jI v55] h55 (fun o h58 => o = .inl none ∧ j32 (a2 + 1) ∧ jWp (d + 1) mX4_writeInBrackets 19 [(0, jR a0), (1, jR a1), (2, jI (a2 + 1))] [] h58 Q))) ∧ (v35 = 40 → hK h35 a1 = 6 ∧ jCall d mX7_put [jR a1, jI 92] h35 (fun o h46 => o = .inl none ∧ hK h46 a0 = 3 ∧ hK h46 (hR h46 200 a0) = 6 ∧ jCall d mX7_at [jR (hR h46 200 a0), jI a2] h46 (fun o h55_1 => ∃ v55_1, o = .inl (some (jI v55_1)) ∧ hK h55_1 a1 = 6 ∧ jCall d mX7_put [jR a1, jI v55_1] h55_1 (fun o h58_1 => o = .inl none ∧ j32 (a2 + 1) ∧ jWp (d + 1) mX4_writeInBrackets 19 [(0, jR a0), (1, jR a1), (2, jI (a2 + 1))] [] h58_1 Q)))))))))) : jWp (d + 1) mX4_writeInBrackets 19 [(0, jR a0), (1, jR a1), (2, jI a2)] [] h Q := by
  refine jw_ok (fun ok q => ?_)
  replace k := k ok (q _ (.tail _ (.tail _ (.head _))))
  refine wp_iload_n 2 dX4_writeInBrackets_19 rfl ?_
  refine wp_aload_n 0 dX4_writeInBrackets_20 rfl ?_
  have c1 := k.1
  replace k := k.2
  refine wp_getR (ci := 2) (j := 0) rfl (by decide) gX4_14 dX4_writeInBrackets_21 c1 rfl ?_
  have c2 := k.1
  replace k := k.2
  refine wp_callV (ci := 5) (y' := mX7_count) (st := [jI a2]) [] rfl rfl rfl fX7_count kX4_68 nX7_count dX4_writeInBrackets_24 (Nat.le_of_ble_eq_true rfl) c2 ?_
  refine jCall.mono k (fun o h24 k => ?_)
  obtain ⟨v24, e, k⟩ := k
  subst e
  show jWp (d + 1) mX4_writeInBrackets 27 [(0, jR a0), (1, jR a1), (2, jI a2)] [jI v24, jI a2] h24 Q
  refine wp_icmp_ge 67 dX4_writeInBrackets_27 rfl (fun q => ?_) (fun q => ?_)
  · replace k := k.1 q
    exact wp_return dX4_writeInBrackets_67 rfl k
  · replace k := k.2 q
    refine wp_aload_n 0 dX4_writeInBrackets_30 rfl ?_
    have c3 := k.1
    replace k := k.2
    refine wp_getR (ci := 2) (j := 0) rfl (by decide) gX4_14 dX4_writeInBrackets_31 c3 rfl ?_
    refine wp_iload_n 2 dX4_writeInBrackets_34 rfl ?_
    have c4 := k.1
    replace k := k.2
    refine wp_callV (ci := 5) (y' := mX7_at) (st := []) [jI a2] rfl rfl rfl fX7_at kX4_89 nX7_at dX4_writeInBrackets_35 (Nat.le_of_ble_eq_true rfl) c4 ?_
    refine jCall.mono k (fun o h35 k => ?_)
    obtain ⟨v35, e, k⟩ := k
    subst e
    show jWp (d + 1) mX4_writeInBrackets 38 [(0, jR a0), (1, jR a1), (2, jI a2)] [jI v35] h35 Q
    refine wp_bipush dX4_writeInBrackets_38 ⟨by decide, by decide⟩ ?_
    refine wp_icmp_ne 49 dX4_writeInBrackets_40 rfl (fun q => ?_) (fun q => ?_)
    · replace k := k.1 q
      refine wp_aload_n 1 dX4_writeInBrackets_49 rfl ?_
      refine wp_aload_n 0 dX4_writeInBrackets_50 rfl ?_
      have c5 := k.1
      replace k := k.2
      refine wp_getR (ci := 2) (j := 0) rfl (by decide) gX4_14 dX4_writeInBrackets_51 c5 rfl ?_
      refine wp_iload_n 2 dX4_writeInBrackets_54 rfl ?_
      have c6 := k.1
      replace k := k.2
      refine wp_callV (ci := 5) (y' := mX7_at) (st := [jR a1]) [jI a2] rfl rfl rfl fX7_at kX4_89 nX7_at dX4_writeInBrackets_55 (Nat.le_of_ble_eq_true rfl) c6 ?_
      refine jCall.mono k (fun o h55 k => ?_)
      obtain ⟨v55, e, k⟩ := k
      subst e
      show jWp (d + 1) mX4_writeInBrackets 58 [(0, jR a0), (1, jR a1), (2, jI a2)] [jI v55, jR a1] h55 Q
      have c7 := k.1
      replace k := k.2
      refine wp_callV (ci := 5) (y' := mX7_put) (st := []) [jI v55] rfl rfl rfl fX7_put kX4_80 nX7_put dX4_writeInBrackets_58 (Nat.le_of_ble_eq_true rfl) c7 ?_
      refine jCall.mono k (fun o h58 k => ?_)
      obtain ⟨e, k⟩ := k
      subst e
      show jWp (d + 1) mX4_writeInBrackets 61 [(0, jR a0), (1, jR a1), (2, jI a2)] [] h58 Q
      have c8 := k.1
      replace k := k.2
      refine wp_iinc 2 [1, 2, 0] (ls' := [(0, jR a0), (1, jR a1), (2, jI (a2 + 1))]) dX4_writeInBrackets_61 rfl c8 ⟨by decide, by decide⟩ (by decide) rfl ?_
      refine wp_goto 19 dX4_writeInBrackets_64 rfl ?_
      exact k
    · replace k := k.2 q
      refine wp_aload_n 1 dX4_writeInBrackets_43 rfl ?_
      refine wp_bipush dX4_writeInBrackets_44 ⟨by decide, by decide⟩ ?_
      have c9 := k.1
      replace k := k.2
      refine wp_callV (ci := 5) (y' := mX7_put) (st := []) [jI 92] rfl rfl rfl fX7_put kX4_80 nX7_put dX4_writeInBrackets_46 (Nat.le_of_ble_eq_true rfl) c9 ?_
      refine jCall.mono k (fun o h46 k => ?_)
      obtain ⟨e, k⟩ := k
      subst e
      show jWp (d + 1) mX4_writeInBrackets 49 [(0, jR a0), (1, jR a1), (2, jI a2)] [] h46 Q
      refine wp_aload_n 1 dX4_writeInBrackets_49 rfl ?_
      refine wp_aload_n 0 dX4_writeInBrackets_50 rfl ?_
      have c10 := k.1
      replace k := k.2
      refine wp_getR (ci := 2) (j := 0) rfl (by decide) gX4_14 dX4_writeInBrackets_51 c10 rfl ?_
      refine wp_iload_n 2 dX4_writeInBrackets_54 rfl ?_
      have c11 := k.1
      replace k := k.2
      refine wp_callV (ci := 5) (y' := mX7_at) (st := [jR a1]) [jI a2] rfl rfl rfl fX7_at kX4_89 nX7_at dX4_writeInBrackets_55 (Nat.le_of_ble_eq_true rfl) c11 ?_
      refine jCall.mono k (fun o h55_1 k => ?_)
      obtain ⟨v55_1, e, k⟩ := k
      subst e
      show jWp (d + 1) mX4_writeInBrackets 58 [(0, jR a0), (1, jR a1), (2, jI a2)] [jI v55_1, jR a1] h55_1 Q
      have c12 := k.1
      replace k := k.2
      refine wp_callV (ci := 5) (y' := mX7_put) (st := []) [jI v55_1] rfl rfl rfl fX7_put kX4_80 nX7_put dX4_writeInBrackets_58 (Nat.le_of_ble_eq_true rfl) c12 ?_
      refine jCall.mono k (fun o h58_1 k => ?_)
      obtain ⟨e, k⟩ := k
      subst e
      show jWp (d + 1) mX4_writeInBrackets 61 [(0, jR a0), (1, jR a1), (2, jI a2)] [] h58_1 Q
      have c13 := k.1
      replace k := k.2
      refine wp_iinc 2 [1, 2, 0] (ls' := [(0, jR a0), (1, jR a1), (2, jI (a2 + 1))]) dX4_writeInBrackets_61 rfl c13 ⟨by decide, by decide⟩ (by decide) rfl ?_
      refine wp_goto 19 dX4_writeInBrackets_64 rfl ?_
      exact k
theorem bX8_lineOf {d : Nat} {h : jH} {Q : jO → jH → Prop} {a0 : Int} {a1 : Int} (k : jOK h → j32 a0 → j32 a1 → jWp d mX8_lineOf 2 [(0, jI a0), (1, jI a1), (2, jI 0)] [] h Q) : jCall d mX8_lineOf [jI a0, jI a1] h Q := by
  refine jCall_of plX8 (Nat.le_of_ble_eq_true rfl) ?_
  show jWp d mX8_lineOf 0 [(0, jI a0), (1, jI a1)] [] h Q
  refine jw_ok (fun ok q => ?_)
  replace k := k ok (q _ (.head _)) (q _ (.tail _ (.head _)))
  refine wp_iconst dX8_lineOf_0 ⟨by decide, by decide⟩ ?_
  refine wp_istore_n [1, 2, 0] (ls' := [(0, jI a0), (1, jI a1), (2, jI 0)]) dX8_lineOf_1 (by decide) rfl ?_
  exact k
theorem bX8_lineOf_2 {d : Nat} {h : jH} {Q : jO → jH → Prop} {a0 : Int} {a1 : Int} {a2 : Int} (k : jOK h → j32 a0 → j32 a1 → j32 a2 → j32 (a2 + 8) ∧ ((520 < (a2 + 8) → Q (.inl (some (jI (-1)))) h) ∧ (¬ (520 < (a2 + 8)) → j32 (a2 + 3) ∧ 0 ≤ (a2 + 3) ∧ (a2 + 3) < 520 ∧ (j32 ((jS 2).getD (a2 + 3).toNat 0) → ((((jS 2).getD (a2 + 3).toNat 0) ≠ (-1) → 0 ≤ a0 ∧ ((((jS 2).getD (a2 + 3).toNat 0) ≠ (-1) → j32 (a1 - 1) ∧ ((((jS 2).getD (a2 + 3).toNat 0) = (-1) → jWp d mX8_lineOf 63 [(0, jI a0), (1, jI a1), (2, jI a2), (4, jI (a0 / 10)), (5, jI (a1 - 1))] [] h Q) ∧ (¬ (((jS 2).getD (a2 + 3).toNat 0) = (-1)) → ((((jS 2).getD (a2 + 3).toNat 0) < (a0 % 10) → jWp d mX8_lineOf 68 [(0, jI a0), (1, jI a1), (2, jI a2), (4, jI (a0 / 10)), (5, jI (a1 - 1))] [jI 0] h Q) ∧ (¬ (((jS 2).getD (a2 + 3).toNat 0) < (a0 % 10)) → jWp d mX8_lineOf 63 [(0, jI a0), (1, jI a1), (2, jI a2), (4, jI (a0 / 10)), (5, jI (a1 - 1))] [] h Q))))) ∧ (((jS 2).getD (a2 + 3).toNat 0) = (-1) → ((((jS 2).getD (a2 + 3).toNat 0) = (-1) → jWp d mX8_lineOf 63 [(0, jI a0), (1, jI a1), (2, jI a2), (4, jI (a0 / 10)), (5, jI a1)] [] h Q) ∧ (¬ (((jS 2).getD (a2 + 3).toNat 0) = (-1)) → ((((jS 2).getD (a2 + 3).toNat 0) < (a0 % 10) → jWp d mX8_lineOf 68 [(0, jI a0), (1, jI a1), (2, jI a2), (4, jI (a0 / 10)), (5, jI a1)] [jI 0] h Q) ∧ (¬ (((jS 2).getD (a2 + 3).toNat 0) < (a0 % 10)) → jWp d mX8_lineOf 63 [(0, jI a0), (1, jI a1), (2, jI a2), (4, jI (a0 / 10)), (5, jI a1)] [] h Q))))))) ∧ (((jS 2).getD (a2 + 3).toNat 0) = (-1) → ((((jS 2).getD (a2 + 3).toNat 0) ≠ (-1) → j32 (a1 - 1) ∧ ((((jS 2).getD (a2 + 3).toNat 0) = (-1) → jWp d mX8_lineOf 63 [(0, jI a0), (1, jI a1), (2, jI a2), (4, jI a0), (5, jI (a1 - 1))] [] h Q) ∧ (¬ (((jS 2).getD (a2 + 3).toNat 0) = (-1)) → 0 ≤ a0 ∧ ((((jS 2).getD (a2 + 3).toNat 0) < (a0 % 10) → jWp d mX8_lineOf 68 [(0, jI a0), (1, jI a1), (2, jI a2), (4, jI a0), (5, jI (a1 - 1))] [jI 0] h Q) ∧ (¬ (((jS 2).getD (a2 + 3).toNat 0) < (a0 % 10)) → jWp d mX8_lineOf 63 [(0, jI a0), (1, jI a1), (2, jI a2), (4, jI a0), (5, jI (a1 - 1))] [] h Q))))) ∧ (((jS 2).getD (a2 + 3).toNat 0) = (-1) → ((((jS 2).getD (a2 + 3).toNat 0) = (-1) → jWp d mX8_lineOf 63 [(0, jI a0), (1, jI a1), (2, jI a2), (4, jI a0), (5, jI a1)] [] h Q) ∧ (¬ (((jS 2).getD (a2 + 3).toNat 0) = (-1)) → 0 ≤ a0 ∧ ((((jS 2).getD (a2 + 3).toNat 0) < (a0 % 10) → jWp d mX8_lineOf 68 [(0, jI a0), (1, jI a1), (2, jI a2), (4, jI a0), (5, jI a1)] [jI 0] h Q) ∧ (¬ (((jS 2).getD (a2 + 3).toNat 0) < (a0 % 10)) → jWp d mX8_lineOf 63 [(0, jI a0), (1, jI a1), (2, jI a2), (4, jI a0), (5, jI a1)] [] h Q)))))))))))) : jWp d mX8_lineOf 2 [(0, jI a0), (1, jI a1), (2, jI a2)] [] h Q := by
  refine jw_ok (fun ok q => ?_)
  replace k := k ok (q _ (.head _)) (q _ (.tail _ (.head _))) (q _ (.tail _ (.tail _ (.head _))))
  refine wp_iload_n 2 dX8_lineOf_2 rfl ?_
  refine wp_bipush dX8_lineOf_3 ⟨by decide, by decide⟩ ?_
  have c1 := k.1
  replace k := k.2
  refine wp_iadd dX8_lineOf_5 c1 ?_
  refine wp_gets (n := 2) (Or.inr (Or.inl ⟨rfl, rfl, rfl⟩)) gX8_11 dX8_lineOf_6 ?_
  refine wp_slenN jS_n2 dX8_lineOf_9 (Or.inr (Or.inl rfl)) ?_
  refine wp_icmp_gt 120 dX8_lineOf_10 rfl (fun q => ?_) (fun q => ?_)
  · replace k := k.1 q
    refine wp_iconst dX8_lineOf_120 ⟨by decide, by decide⟩ ?_
    exact wp_iret dX8_lineOf_121 rfl k
  · replace k := k.2 q
    refine wp_gets (n := 2) (Or.inr (Or.inl ⟨rfl, rfl, rfl⟩)) gX8_11 dX8_lineOf_13 ?_
    refine wp_iload_n 2 dX8_lineOf_16 rfl ?_
    refine wp_iconst dX8_lineOf_17 ⟨by decide, by decide⟩ ?_
    have c2 := k.1
    replace k := k.2
    refine wp_iadd dX8_lineOf_18 c2 ?_
    have c3 := k.1
    replace k := k.2
    have c4 := k.1
    replace k := k.2
    refine wp_saldN jS_n2 dX8_lineOf_19 (Or.inr (Or.inl rfl)) c3 c4 (fun q => ?_)
    have f5 := q
    replace k := k q
    refine wp_istore_n [1, 2, 3, 0] (ls' := [(0, jI a0), (1, jI a1), (2, jI a2), (3, jI ((jS 2).getD (a2 + 3).toNat 0))]) dX8_lineOf_20 (by decide) rfl ?_
    refine wp_iload_n 3 dX8_lineOf_21 rfl ?_
    refine wp_iconst dX8_lineOf_22 ⟨by decide, by decide⟩ ?_
    refine wp_icmp_ne 30 dX8_lineOf_23 rfl (fun q => ?_) (fun q => ?_)
    · replace k := k.1 q
      refine wp_iload_n 0 dX8_lineOf_30 rfl ?_
      refine wp_bipush dX8_lineOf_31 ⟨by decide, by decide⟩ ?_
      have c6 := k.1
      replace k := k.2
      refine wp_idiv dX8_lineOf_33 c6 (by decide) ?_
      refine wp_istore [1, 2, 3, 4, 0] (ls' := [(0, jI a0), (1, jI a1), (2, jI a2), (3, jI ((jS 2).getD (a2 + 3).toNat 0)), (4, jI (a0 / 10))]) dX8_lineOf_34 (by decide) rfl ?_
      refine wp_iload_n 3 dX8_lineOf_36 rfl ?_
      refine wp_iconst dX8_lineOf_37 ⟨by decide, by decide⟩ ?_
      refine wp_icmp_ne 45 dX8_lineOf_38 rfl (fun q => ?_) (fun q => ?_)
      · replace k := k.1 q
        refine wp_iload_n 1 dX8_lineOf_45 rfl ?_
        refine wp_iconst dX8_lineOf_46 ⟨by decide, by decide⟩ ?_
        have c7 := k.1
        replace k := k.2
        refine wp_isub dX8_lineOf_47 c7 ?_
        refine wp_istore [1, 2, 3, 4, 5, 0] (ls' := [(0, jI a0), (1, jI a1), (2, jI a2), (3, jI ((jS 2).getD (a2 + 3).toNat 0)), (4, jI (a0 / 10)), (5, jI (a1 - 1))]) dX8_lineOf_48 (by decide) rfl ?_
        refine wp_iload_n 3 dX8_lineOf_50 rfl ?_
        refine wp_iconst dX8_lineOf_51 ⟨by decide, by decide⟩ ?_
        refine wp_icmp_eq 63 dX8_lineOf_52 rfl (fun q => ?_) (fun q => ?_)
        · replace k := k.1 q
          refine wp_sub [0, 1, 2, 4, 5] (ls' := [(0, jI a0), (1, jI a1), (2, jI a2), (4, jI (a0 / 10)), (5, jI (a1 - 1))]) rfl ?_
          exact k
        · replace k := k.2 q
          refine wp_iload_n 0 dX8_lineOf_55 rfl ?_
          refine wp_bipush dX8_lineOf_56 ⟨by decide, by decide⟩ ?_
          refine wp_irem dX8_lineOf_58 c6 (by decide) ?_
          refine wp_iload_n 3 dX8_lineOf_59 rfl ?_
          refine wp_icmp_gt 67 dX8_lineOf_60 rfl (fun q => ?_) (fun q => ?_)
          · replace k := k.1 q
            refine wp_iconst dX8_lineOf_67 ⟨by decide, by decide⟩ ?_
            refine wp_sub [0, 1, 2, 4, 5] (ls' := [(0, jI a0), (1, jI a1), (2, jI a2), (4, jI (a0 / 10)), (5, jI (a1 - 1))]) rfl ?_
            exact k
          · replace k := k.2 q
            refine wp_sub [0, 1, 2, 4, 5] (ls' := [(0, jI a0), (1, jI a1), (2, jI a2), (4, jI (a0 / 10)), (5, jI (a1 - 1))]) rfl ?_
            exact k
      · replace k := k.2 q
        refine wp_iload_n 1 dX8_lineOf_41 rfl ?_
        refine wp_goto 48 dX8_lineOf_42 rfl ?_
        refine wp_istore [1, 2, 3, 4, 5, 0] (ls' := [(0, jI a0), (1, jI a1), (2, jI a2), (3, jI ((jS 2).getD (a2 + 3).toNat 0)), (4, jI (a0 / 10)), (5, jI a1)]) dX8_lineOf_48 (by decide) rfl ?_
        refine wp_iload_n 3 dX8_lineOf_50 rfl ?_
        refine wp_iconst dX8_lineOf_51 ⟨by decide, by decide⟩ ?_
        refine wp_icmp_eq 63 dX8_lineOf_52 rfl (fun q => ?_) (fun q => ?_)
        · replace k := k.1 q
          refine wp_sub [0, 1, 2, 4, 5] (ls' := [(0, jI a0), (1, jI a1), (2, jI a2), (4, jI (a0 / 10)), (5, jI a1)]) rfl ?_
          exact k
        · replace k := k.2 q
          refine wp_iload_n 0 dX8_lineOf_55 rfl ?_
          refine wp_bipush dX8_lineOf_56 ⟨by decide, by decide⟩ ?_
          refine wp_irem dX8_lineOf_58 c6 (by decide) ?_
          refine wp_iload_n 3 dX8_lineOf_59 rfl ?_
          refine wp_icmp_gt 67 dX8_lineOf_60 rfl (fun q => ?_) (fun q => ?_)
          · replace k := k.1 q
            refine wp_iconst dX8_lineOf_67 ⟨by decide, by decide⟩ ?_
            refine wp_sub [0, 1, 2, 4, 5] (ls' := [(0, jI a0), (1, jI a1), (2, jI a2), (4, jI (a0 / 10)), (5, jI a1)]) rfl ?_
            exact k
          · replace k := k.2 q
            refine wp_sub [0, 1, 2, 4, 5] (ls' := [(0, jI a0), (1, jI a1), (2, jI a2), (4, jI (a0 / 10)), (5, jI a1)]) rfl ?_
            exact k
    · replace k := k.2 q
      refine wp_iload_n 0 dX8_lineOf_26 rfl ?_
      refine wp_goto 34 dX8_lineOf_27 rfl ?_
      refine wp_istore [1, 2, 3, 4, 0] (ls' := [(0, jI a0), (1, jI a1), (2, jI a2), (3, jI ((jS 2).getD (a2 + 3).toNat 0)), (4, jI a0)]) dX8_lineOf_34 (by decide) rfl ?_
      refine wp_iload_n 3 dX8_lineOf_36 rfl ?_
      refine wp_iconst dX8_lineOf_37 ⟨by decide, by decide⟩ ?_
      refine wp_icmp_ne 45 dX8_lineOf_38 rfl (fun q => ?_) (fun q => ?_)
      · replace k := k.1 q
        refine wp_iload_n 1 dX8_lineOf_45 rfl ?_
        refine wp_iconst dX8_lineOf_46 ⟨by decide, by decide⟩ ?_
        have c8 := k.1
        replace k := k.2
        refine wp_isub dX8_lineOf_47 c8 ?_
        refine wp_istore [1, 2, 3, 4, 5, 0] (ls' := [(0, jI a0), (1, jI a1), (2, jI a2), (3, jI ((jS 2).getD (a2 + 3).toNat 0)), (4, jI a0), (5, jI (a1 - 1))]) dX8_lineOf_48 (by decide) rfl ?_
        refine wp_iload_n 3 dX8_lineOf_50 rfl ?_
        refine wp_iconst dX8_lineOf_51 ⟨by decide, by decide⟩ ?_
        refine wp_icmp_eq 63 dX8_lineOf_52 rfl (fun q => ?_) (fun q => ?_)
        · replace k := k.1 q
          refine wp_sub [0, 1, 2, 4, 5] (ls' := [(0, jI a0), (1, jI a1), (2, jI a2), (4, jI a0), (5, jI (a1 - 1))]) rfl ?_
          exact k
        · replace k := k.2 q
          refine wp_iload_n 0 dX8_lineOf_55 rfl ?_
          refine wp_bipush dX8_lineOf_56 ⟨by decide, by decide⟩ ?_
          have c9 := k.1
          replace k := k.2
          refine wp_irem dX8_lineOf_58 c9 (by decide) ?_
          refine wp_iload_n 3 dX8_lineOf_59 rfl ?_
          refine wp_icmp_gt 67 dX8_lineOf_60 rfl (fun q => ?_) (fun q => ?_)
          · replace k := k.1 q
            refine wp_iconst dX8_lineOf_67 ⟨by decide, by decide⟩ ?_
            refine wp_sub [0, 1, 2, 4, 5] (ls' := [(0, jI a0), (1, jI a1), (2, jI a2), (4, jI a0), (5, jI (a1 - 1))]) rfl ?_
            exact k
          · replace k := k.2 q
            refine wp_sub [0, 1, 2, 4, 5] (ls' := [(0, jI a0), (1, jI a1), (2, jI a2), (4, jI a0), (5, jI (a1 - 1))]) rfl ?_
            exact k
      · replace k := k.2 q
        refine wp_iload_n 1 dX8_lineOf_41 rfl ?_
        refine wp_goto 48 dX8_lineOf_42 rfl ?_
        refine wp_istore [1, 2, 3, 4, 5, 0] (ls' := [(0, jI a0), (1, jI a1), (2, jI a2), (3, jI ((jS 2).getD (a2 + 3).toNat 0)), (4, jI a0), (5, jI a1)]) dX8_lineOf_48 (by decide) rfl ?_
        refine wp_iload_n 3 dX8_lineOf_50 rfl ?_
        refine wp_iconst dX8_lineOf_51 ⟨by decide, by decide⟩ ?_
        refine wp_icmp_eq 63 dX8_lineOf_52 rfl (fun q => ?_) (fun q => ?_)
        · replace k := k.1 q
          refine wp_sub [0, 1, 2, 4, 5] (ls' := [(0, jI a0), (1, jI a1), (2, jI a2), (4, jI a0), (5, jI a1)]) rfl ?_
          exact k
        · replace k := k.2 q
          refine wp_iload_n 0 dX8_lineOf_55 rfl ?_
          refine wp_bipush dX8_lineOf_56 ⟨by decide, by decide⟩ ?_
          have c10 := k.1
          replace k := k.2
          refine wp_irem dX8_lineOf_58 c10 (by decide) ?_
          refine wp_iload_n 3 dX8_lineOf_59 rfl ?_
          refine wp_icmp_gt 67 dX8_lineOf_60 rfl (fun q => ?_) (fun q => ?_)
          · replace k := k.1 q
            refine wp_iconst dX8_lineOf_67 ⟨by decide, by decide⟩ ?_
            refine wp_sub [0, 1, 2, 4, 5] (ls' := [(0, jI a0), (1, jI a1), (2, jI a2), (4, jI a0), (5, jI a1)]) rfl ?_
            exact k
          · replace k := k.2 q
            refine wp_sub [0, 1, 2, 4, 5] (ls' := [(0, jI a0), (1, jI a1), (2, jI a2), (4, jI a0), (5, jI a1)]) rfl ?_
            exact k
theorem bX8_lineOf_63 {d : Nat} {h : jH} {Q : jO → jH → Prop} {a0 : Int} {a1 : Int} {a2 : Int} {a4 : Int} {a5 : Int} (k : jOK h → j32 a0 → j32 a1 → j32 a2 → j32 a4 → j32 a5 → jWp d mX8_lineOf 68 [(0, jI a0), (1, jI a1), (2, jI a2), (4, jI a4), (5, jI a5)] [jI 1] h Q) : jWp d mX8_lineOf 63 [(0, jI a0), (1, jI a1), (2, jI a2), (4, jI a4), (5, jI a5)] [] h Q := by
  refine jw_ok (fun ok q => ?_)
  replace k := k ok (q _ (.head _)) (q _ (.tail _ (.head _))) (q _ (.tail _ (.tail _ (.head _)))) (q _ (.tail _ (.tail _ (.tail _ (.head _))))) (q _ (.tail _ (.tail _ (.tail _ (.tail _ (.head _))))))
  refine wp_iconst dX8_lineOf_63 ⟨by decide, by decide⟩ ?_
  refine wp_goto 68 dX8_lineOf_64 rfl ?_
  exact k
theorem bX8_lineOf_68 {d : Nat} {h : jH} {Q : jO → jH → Prop} {a0 : Int} {a1 : Int} {a2 : Int} {a4 : Int} {a5 : Int} {s0 : Int} (k : jOK h → j32 a0 → j32 a1 → j32 a2 → j32 a4 → j32 a5 → 0 ≤ a2 ∧ a2 < 520 ∧ (j32 ((jS 2).getD (a2).toNat 0) → ((a4 < ((jS 2).getD (a2).toNat 0) → jWp d mX8_lineOf 114 [(0, jI a0), (1, jI a1), (2, jI a2)] [] h Q) ∧ (¬ (a4 < ((jS 2).getD (a2).toNat 0)) → j32 (a2 + 1) ∧ 0 ≤ (a2 + 1) ∧ (a2 + 1) < 520 ∧ (j32 ((jS 2).getD (a2 + 1).toNat 0) → ((((jS 2).getD (a2 + 1).toNat 0) < a4 → jWp d mX8_lineOf 114 [(0, jI a0), (1, jI a1), (2, jI a2)] [] h Q) ∧ (¬ (((jS 2).getD (a2 + 1).toNat 0) < a4) → j32 (a2 + 2) ∧ 0 ≤ (a2 + 2) ∧ (a2 + 2) < 520 ∧ (j32 ((jS 2).getD (a2 + 2).toNat 0) → ((a5 ≠ ((jS 2).getD (a2 + 2).toNat 0) → jWp d mX8_lineOf 114 [(0, jI a0), (1, jI a1), (2, jI a2)] [] h Q) ∧ (a5 = ((jS 2).getD (a2 + 2).toNat 0) → ((s0 = 0 → jWp d mX8_lineOf 114 [(0, jI a0), (1, jI a1), (2, jI a2)] [] h Q) ∧ (¬ (s0 = 0) → Q (.inl (some (jI (a2 / 8)))) h)))))))))))) : jWp d mX8_lineOf 68 [(0, jI a0), (1, jI a1), (2, jI a2), (4, jI a4), (5, jI a5)] [jI s0] h Q := by
  refine jw_ok (fun ok q => ?_)
  replace k := k ok (q _ (.head _)) (q _ (.tail _ (.head _))) (q _ (.tail _ (.tail _ (.head _)))) (q _ (.tail _ (.tail _ (.tail _ (.head _))))) (q _ (.tail _ (.tail _ (.tail _ (.tail _ (.head _))))))
  refine wp_istore [1, 2, 3, 4, 5, 0] (ls' := [(0, jI a0), (1, jI a1), (2, jI a2), (4, jI a4), (5, jI a5), (6, jI s0)]) dX8_lineOf_68 (by decide) rfl ?_
  refine wp_iload 3 dX8_lineOf_70 rfl ?_
  refine wp_gets (n := 2) (Or.inr (Or.inl ⟨rfl, rfl, rfl⟩)) gX8_11 dX8_lineOf_72 ?_
  refine wp_iload_n 2 dX8_lineOf_75 rfl ?_
  have c1 := k.1
  replace k := k.2
  have c2 := k.1
  replace k := k.2
  refine wp_saldN jS_n2 dX8_lineOf_76 (Or.inr (Or.inl rfl)) c1 c2 (fun q => ?_)
  have f3 := q
  replace k := k q
  refine wp_icmp_lt 114 dX8_lineOf_77 rfl (fun q => ?_) (fun q => ?_)
  · replace k := k.1 q
    refine wp_sub [0, 1, 2] (ls' := [(0, jI a0), (1, jI a1), (2, jI a2)]) rfl ?_
    exact k
  · replace k := k.2 q
    refine wp_iload 3 dX8_lineOf_80 rfl ?_
    refine wp_gets (n := 2) (Or.inr (Or.inl ⟨rfl, rfl, rfl⟩)) gX8_11 dX8_lineOf_82 ?_
    refine wp_iload_n 2 dX8_lineOf_85 rfl ?_
    refine wp_iconst dX8_lineOf_86 ⟨by decide, by decide⟩ ?_
    have c4 := k.1
    replace k := k.2
    refine wp_iadd dX8_lineOf_87 c4 ?_
    have c5 := k.1
    replace k := k.2
    have c6 := k.1
    replace k := k.2
    refine wp_saldN jS_n2 dX8_lineOf_88 (Or.inr (Or.inl rfl)) c5 c6 (fun q => ?_)
    have f7 := q
    replace k := k q
    refine wp_icmp_gt 114 dX8_lineOf_89 rfl (fun q => ?_) (fun q => ?_)
    · replace k := k.1 q
      refine wp_sub [0, 1, 2] (ls' := [(0, jI a0), (1, jI a1), (2, jI a2)]) rfl ?_
      exact k
    · replace k := k.2 q
      refine wp_iload 4 dX8_lineOf_92 rfl ?_
      refine wp_gets (n := 2) (Or.inr (Or.inl ⟨rfl, rfl, rfl⟩)) gX8_11 dX8_lineOf_94 ?_
      refine wp_iload_n 2 dX8_lineOf_97 rfl ?_
      refine wp_iconst dX8_lineOf_98 ⟨by decide, by decide⟩ ?_
      have c8 := k.1
      replace k := k.2
      refine wp_iadd dX8_lineOf_99 c8 ?_
      have c9 := k.1
      replace k := k.2
      have c10 := k.1
      replace k := k.2
      refine wp_saldN jS_n2 dX8_lineOf_100 (Or.inr (Or.inl rfl)) c9 c10 (fun q => ?_)
      have f11 := q
      replace k := k q
      refine wp_icmp_ne 114 dX8_lineOf_101 rfl (fun q => ?_) (fun q => ?_)
      · replace k := k.1 q
        refine wp_sub [0, 1, 2] (ls' := [(0, jI a0), (1, jI a1), (2, jI a2)]) rfl ?_
        exact k
      · replace k := k.2 q
        refine wp_iload 5 dX8_lineOf_104 rfl ?_
        refine wp_if_eq 114 dX8_lineOf_106 rfl (fun q => ?_) (fun q => ?_)
        · replace k := k.1 q
          refine wp_sub [0, 1, 2] (ls' := [(0, jI a0), (1, jI a1), (2, jI a2)]) rfl ?_
          exact k
        · replace k := k.2 q
          refine wp_iload_n 2 dX8_lineOf_109 rfl ?_
          refine wp_bipush dX8_lineOf_110 ⟨by decide, by decide⟩ ?_
          refine wp_idiv dX8_lineOf_112 c1 (by decide) ?_
          exact wp_iret dX8_lineOf_113 rfl k
theorem bX8_lineOf_114 {d : Nat} {h : jH} {Q : jO → jH → Prop} {a0 : Int} {a1 : Int} {a2 : Int} (k : jOK h → j32 a0 → j32 a1 → j32 a2 → j32 (a2 + 8) ∧ jWp d mX8_lineOf 2 [(0, jI a0), (1, jI a1), (2, jI (a2 + 8))] [] h Q) : jWp d mX8_lineOf 114 [(0, jI a0), (1, jI a1), (2, jI a2)] [] h Q := by
  refine jw_ok (fun ok q => ?_)
  replace k := k ok (q _ (.head _)) (q _ (.tail _ (.head _))) (q _ (.tail _ (.tail _ (.head _))))
  have c1 := k.1
  replace k := k.2
  refine wp_iinc 2 [1, 2, 0] (ls' := [(0, jI a0), (1, jI a1), (2, jI (a2 + 8))]) dX8_lineOf_114 rfl c1 ⟨by decide, by decide⟩ (by decide) rfl ?_
  refine wp_goto 2 dX8_lineOf_117 rfl ?_
  exact k
theorem bX8_cell {d : Nat} {h : jH} {Q : jO → jH → Prop} {a0 : Int} {a1 : Int} (k : jOK h → j32 a0 → j32 a1 → j32 (a0 * 8) ∧ j32 ((a0 * 8) + a1) ∧ ((a0 < 0 → Q (.inl (some (jI 0))) h) ∧ (¬ (a0 < 0) → ((((a0 * 8) + a1) < 0 → Q (.inl (some (jI 0))) h) ∧ (¬ (((a0 * 8) + a1) < 0) → ((((a0 * 8) + a1) < 520 → 0 ≤ ((a0 * 8) + a1) ∧ ((a0 * 8) + a1) < 520 ∧ (j32 ((jS 2).getD ((a0 * 8) + a1).toNat 0) → Q (.inl (some (jI ((jS 2).getD ((a0 * 8) + a1).toNat 0)))) h)) ∧ (¬ (((a0 * 8) + a1) < 520) → Q (.inl (some (jI 0))) h))))))) : jCall d mX8_cell [jI a0, jI a1] h Q := by
  refine jCall_of plX8 (Nat.le_of_ble_eq_true rfl) ?_
  show jWp d mX8_cell 0 [(0, jI a0), (1, jI a1)] [] h Q
  refine jw_ok (fun ok q => ?_)
  replace k := k ok (q _ (.head _)) (q _ (.tail _ (.head _)))
  refine wp_iload_n 0 dX8_cell_0 rfl ?_
  refine wp_bipush dX8_cell_1 ⟨by decide, by decide⟩ ?_
  have c1 := k.1
  replace k := k.2
  refine wp_imul dX8_cell_3 c1 ?_
  refine wp_iload_n 1 dX8_cell_4 rfl ?_
  have c2 := k.1
  replace k := k.2
  refine wp_iadd dX8_cell_5 c2 ?_
  refine wp_istore_n [1, 0] (ls' := [(0, jI a0), (2, jI ((a0 * 8) + a1))]) dX8_cell_6 (by decide) rfl ?_
  refine wp_iload_n 0 dX8_cell_7 rfl ?_
  refine wp_if_lt 23 dX8_cell_8 rfl (fun q => ?_) (fun q => ?_)
  · replace k := k.1 q
    refine wp_iconst dX8_cell_23 ⟨by decide, by decide⟩ ?_
    refine wp_goto 32 dX8_cell_24 rfl ?_
    exact wp_iret dX8_cell_32 rfl k
  · replace k := k.2 q
    refine wp_iload_n 1 dX8_cell_11 rfl ?_
    refine wp_if_lt 23 dX8_cell_12 rfl (fun q => ?_) (fun q => ?_)
    · replace k := k.1 q
      refine wp_iconst dX8_cell_23 ⟨by decide, by decide⟩ ?_
      refine wp_goto 32 dX8_cell_24 rfl ?_
      exact wp_iret dX8_cell_32 rfl k
    · replace k := k.2 q
      refine wp_iload_n 1 dX8_cell_15 rfl ?_
      refine wp_gets (n := 2) (Or.inr (Or.inl ⟨rfl, rfl, rfl⟩)) gX8_11 dX8_cell_16 ?_
      refine wp_slenN jS_n2 dX8_cell_19 (Or.inr (Or.inl rfl)) ?_
      refine wp_icmp_lt 27 dX8_cell_20 rfl (fun q => ?_) (fun q => ?_)
      · replace k := k.1 q
        refine wp_gets (n := 2) (Or.inr (Or.inl ⟨rfl, rfl, rfl⟩)) gX8_11 dX8_cell_27 ?_
        refine wp_iload_n 1 dX8_cell_30 rfl ?_
        have c3 := k.1
        replace k := k.2
        have c4 := k.1
        replace k := k.2
        refine wp_saldN jS_n2 dX8_cell_31 (Or.inr (Or.inl rfl)) c3 c4 (fun q => ?_)
        have f5 := q
        replace k := k q
        exact wp_iret dX8_cell_32 rfl k
      · replace k := k.2 q
        refine wp_iconst dX8_cell_23 ⟨by decide, by decide⟩ ?_
        refine wp_goto 32 dX8_cell_24 rfl ?_
        exact wp_iret dX8_cell_32 rfl k
theorem bX8_hasPoint {d : Nat} {h : jH} {Q : jO → jH → Prop} {a0 : Int} (k : jOK h → j32 a0 → jCall d mX8_cell [jI a0, jI 3] h (fun o h2 => ∃ v2, o = .inl (some (jI v2)) ∧ ((v2 = (-1) → Q (.inl (some (jI 0))) h2) ∧ (¬ (v2 = (-1)) → Q (.inl (some (jI 1))) h2)))) : jCall (d + 1) mX8_hasPoint [jI a0] h Q := by
  refine jCall_of plX8 (Nat.le_of_ble_eq_true rfl) ?_
  show jWp (d + 1) mX8_hasPoint 0 [(0, jI a0)] [] h Q
  refine jw_ok (fun ok q => ?_)
  replace k := k ok (q _ (.head _))
  refine wp_iload_n 0 dX8_hasPoint_0 rfl ?_
  refine wp_iconst dX8_hasPoint_1 ⟨by decide, by decide⟩ ?_
  refine wp_callS (y' := mX8_cell) (st := []) [jI a0, jI 3] rfl fX8_cell kX8_15 nX8_cell dX8_hasPoint_2 (Nat.le_of_ble_eq_true rfl) ?_
  refine jCall.mono k (fun o h2 k => ?_)
  obtain ⟨v2, e, k⟩ := k
  subst e
  show jWp (d + 1) mX8_hasPoint 5 [(0, jI a0)] [jI v2] h2 Q
  refine wp_iconst dX8_hasPoint_5 ⟨by decide, by decide⟩ ?_
  refine wp_icmp_eq 13 dX8_hasPoint_6 rfl (fun q => ?_) (fun q => ?_)
  · replace k := k.1 q
    refine wp_iconst dX8_hasPoint_13 ⟨by decide, by decide⟩ ?_
    exact wp_zreturn dX8_hasPoint_14 rfl (by decide) (by decide) k
  · replace k := k.2 q
    refine wp_iconst dX8_hasPoint_9 ⟨by decide, by decide⟩ ?_
    refine wp_goto 14 dX8_hasPoint_10 rfl ?_
    exact wp_zreturn dX8_hasPoint_14 rfl (by decide) (by decide) k
theorem bX8_isFixed {d : Nat} {h : jH} {Q : jO → jH → Prop} {a0 : Int} {a1 : Int} (k : jOK h → j32 a0 → j32 a1 → ((a1 ≠ 4 → ((a1 ≠ 3 → ((a0 ≤ 2 → jWp d mX8_isFixed 67 [] [] h Q) ∧ (¬ (a0 ≤ 2) → ((a0 < 11 → jWp d mX8_isFixed 43 [(2, jI a0)] [] h Q) ∧ (¬ (a0 < 11) → ((a0 ≤ 17 → jWp d mX8_isFixed 67 [] [] h Q) ∧ (¬ (a0 ≤ 17) → jWp d mX8_isFixed 43 [(2, jI a0)] [] h Q))))))) ∧ (a1 = 3 → 0 ≤ a0 ∧ (((a0 / 10) ≤ 2 → jWp d mX8_isFixed 67 [] [] h Q) ∧ (¬ ((a0 / 10) ≤ 2) → (((a0 / 10) < 11 → jWp d mX8_isFixed 43 [(2, jI (a0 / 10))] [] h Q) ∧ (¬ ((a0 / 10) < 11) → (((a0 / 10) ≤ 17 → jWp d mX8_isFixed 67 [] [] h Q) ∧ (¬ ((a0 / 10) ≤ 17) → jWp d mX8_isFixed 43 [(2, jI (a0 / 10))] [] h Q))))))))) ∧ (a1 = 4 → 0 ≤ a0 ∧ (((a0 / 100) ≤ 2 → jWp d mX8_isFixed 67 [] [] h Q) ∧ (¬ ((a0 / 100) ≤ 2) → (((a0 / 100) < 11 → jWp d mX8_isFixed 43 [(2, jI (a0 / 100))] [] h Q) ∧ (¬ ((a0 / 100) < 11) → (((a0 / 100) ≤ 17 → jWp d mX8_isFixed 67 [] [] h Q) ∧ (¬ ((a0 / 100) ≤ 17) → jWp d mX8_isFixed 43 [(2, jI (a0 / 100))] [] h Q))))))))) : jCall d mX8_isFixed [jI a0, jI a1] h Q := by
  refine jCall_of plX8 (Nat.le_of_ble_eq_true rfl) ?_
  show jWp d mX8_isFixed 0 [(0, jI a0), (1, jI a1)] [] h Q
  refine jw_ok (fun ok q => ?_)
  replace k := k ok (q _ (.head _)) (q _ (.tail _ (.head _)))
  refine wp_iload_n 1 dX8_isFixed_0 rfl ?_
  refine wp_iconst dX8_isFixed_1 ⟨by decide, by decide⟩ ?_
  refine wp_icmp_ne 12 dX8_isFixed_2 rfl (fun q => ?_) (fun q => ?_)
  · replace k := k.1 q
    refine wp_iload_n 1 dX8_isFixed_12 rfl ?_
    refine wp_iconst dX8_isFixed_13 ⟨by decide, by decide⟩ ?_
    refine wp_icmp_ne 24 dX8_isFixed_14 rfl (fun q => ?_) (fun q => ?_)
    · replace k := k.1 q
      refine wp_iload_n 0 dX8_isFixed_24 rfl ?_
      refine wp_istore_n [0] (ls' := [(2, jI a0)]) dX8_isFixed_25 (by decide) rfl ?_
      refine wp_iload_n 0 dX8_isFixed_26 rfl ?_
      refine wp_iconst dX8_isFixed_27 ⟨by decide, by decide⟩ ?_
      refine wp_icmp_le 67 dX8_isFixed_28 rfl (fun q => ?_) (fun q => ?_)
      · replace k := k.1 q
        refine wp_sub [] (ls' := []) rfl ?_
        exact k
      · replace k := k.2 q
        refine wp_iload_n 0 dX8_isFixed_31 rfl ?_
        refine wp_bipush dX8_isFixed_32 ⟨by decide, by decide⟩ ?_
        refine wp_icmp_lt 43 dX8_isFixed_34 rfl (fun q => ?_) (fun q => ?_)
        · replace k := k.1 q
          exact k
        · replace k := k.2 q
          refine wp_iload_n 0 dX8_isFixed_37 rfl ?_
          refine wp_bipush dX8_isFixed_38 ⟨by decide, by decide⟩ ?_
          refine wp_icmp_le 67 dX8_isFixed_40 rfl (fun q => ?_) (fun q => ?_)
          · replace k := k.1 q
            refine wp_sub [] (ls' := []) rfl ?_
            exact k
          · replace k := k.2 q
            exact k
    · replace k := k.2 q
      refine wp_iload_n 0 dX8_isFixed_17 rfl ?_
      refine wp_bipush dX8_isFixed_18 ⟨by decide, by decide⟩ ?_
      have c1 := k.1
      replace k := k.2
      refine wp_idiv dX8_isFixed_20 c1 (by decide) ?_
      refine wp_goto 25 dX8_isFixed_21 rfl ?_
      refine wp_istore_n [0] (ls' := [(2, jI (a0 / 10))]) dX8_isFixed_25 (by decide) rfl ?_
      refine wp_iload_n 0 dX8_isFixed_26 rfl ?_
      refine wp_iconst dX8_isFixed_27 ⟨by decide, by decide⟩ ?_
      refine wp_icmp_le 67 dX8_isFixed_28 rfl (fun q => ?_) (fun q => ?_)
      · replace k := k.1 q
        refine wp_sub [] (ls' := []) rfl ?_
        exact k
      · replace k := k.2 q
        refine wp_iload_n 0 dX8_isFixed_31 rfl ?_
        refine wp_bipush dX8_isFixed_32 ⟨by decide, by decide⟩ ?_
        refine wp_icmp_lt 43 dX8_isFixed_34 rfl (fun q => ?_) (fun q => ?_)
        · replace k := k.1 q
          exact k
        · replace k := k.2 q
          refine wp_iload_n 0 dX8_isFixed_37 rfl ?_
          refine wp_bipush dX8_isFixed_38 ⟨by decide, by decide⟩ ?_
          refine wp_icmp_le 67 dX8_isFixed_40 rfl (fun q => ?_) (fun q => ?_)
          · replace k := k.1 q
            refine wp_sub [] (ls' := []) rfl ?_
            exact k
          · replace k := k.2 q
            exact k
  · replace k := k.2 q
    refine wp_iload_n 0 dX8_isFixed_5 rfl ?_
    refine wp_bipush dX8_isFixed_6 ⟨by decide, by decide⟩ ?_
    have c2 := k.1
    replace k := k.2
    refine wp_idiv dX8_isFixed_8 c2 (by decide) ?_
    refine wp_goto 25 dX8_isFixed_9 rfl ?_
    refine wp_istore_n [0] (ls' := [(2, jI (a0 / 100))]) dX8_isFixed_25 (by decide) rfl ?_
    refine wp_iload_n 0 dX8_isFixed_26 rfl ?_
    refine wp_iconst dX8_isFixed_27 ⟨by decide, by decide⟩ ?_
    refine wp_icmp_le 67 dX8_isFixed_28 rfl (fun q => ?_) (fun q => ?_)
    · replace k := k.1 q
      refine wp_sub [] (ls' := []) rfl ?_
      exact k
    · replace k := k.2 q
      refine wp_iload_n 0 dX8_isFixed_31 rfl ?_
      refine wp_bipush dX8_isFixed_32 ⟨by decide, by decide⟩ ?_
      refine wp_icmp_lt 43 dX8_isFixed_34 rfl (fun q => ?_) (fun q => ?_)
      · replace k := k.1 q
        exact k
      · replace k := k.2 q
        refine wp_iload_n 0 dX8_isFixed_37 rfl ?_
        refine wp_bipush dX8_isFixed_38 ⟨by decide, by decide⟩ ?_
        refine wp_icmp_le 67 dX8_isFixed_40 rfl (fun q => ?_) (fun q => ?_)
        · replace k := k.1 q
          refine wp_sub [] (ls' := []) rfl ?_
          exact k
        · replace k := k.2 q
          exact k
theorem bX8_isFixed_67 {d : Nat} {h : jH} {Q : jO → jH → Prop}  (k : jOK h → jWp d mX8_isFixed 72 [] [jI 1] h Q) : jWp d mX8_isFixed 67 [] [] h Q := by
  refine jw_ok (fun ok q => ?_)
  replace k := k ok 
  refine wp_iconst dX8_isFixed_67 ⟨by decide, by decide⟩ ?_
  refine wp_goto 72 dX8_isFixed_68 rfl ?_
  exact k
theorem bX8_isFixed_43 {d : Nat} {h : jH} {Q : jO → jH → Prop} {a2 : Int} (k : jOK h → j32 a2 → ((a2 = 20 → jWp d mX8_isFixed 67 [] [] h Q) ∧ (¬ (a2 = 20) → ((a2 < 31 → jWp d mX8_isFixed 61 [(2, jI a2)] [] h Q) ∧ (¬ (a2 < 31) → ((a2 ≤ 36 → jWp d mX8_isFixed 67 [] [] h Q) ∧ (¬ (a2 ≤ 36) → jWp d mX8_isFixed 61 [(2, jI a2)] [] h Q))))))) : jWp d mX8_isFixed 43 [(2, jI a2)] [] h Q := by
  refine jw_ok (fun ok q => ?_)
  replace k := k ok (q _ (.head _))
  refine wp_iload_n 0 dX8_isFixed_43 rfl ?_
  refine wp_bipush dX8_isFixed_44 ⟨by decide, by decide⟩ ?_
  refine wp_icmp_eq 67 dX8_isFixed_46 rfl (fun q => ?_) (fun q => ?_)
  · replace k := k.1 q
    refine wp_sub [] (ls' := []) rfl ?_
    exact k
  · replace k := k.2 q
    refine wp_iload_n 0 dX8_isFixed_49 rfl ?_
    refine wp_bipush dX8_isFixed_50 ⟨by decide, by decide⟩ ?_
    refine wp_icmp_lt 61 dX8_isFixed_52 rfl (fun q => ?_) (fun q => ?_)
    · replace k := k.1 q
      exact k
    · replace k := k.2 q
      refine wp_iload_n 0 dX8_isFixed_55 rfl ?_
      refine wp_bipush dX8_isFixed_56 ⟨by decide, by decide⟩ ?_
      refine wp_icmp_le 67 dX8_isFixed_58 rfl (fun q => ?_) (fun q => ?_)
      · replace k := k.1 q
        refine wp_sub [] (ls' := []) rfl ?_
        exact k
      · replace k := k.2 q
        exact k
theorem bX8_isFixed_72 {d : Nat} {h : jH} {Q : jO → jH → Prop} {s0 : Int} (k : jOK h → (0 ≤ s0 ∧ s0 ≤ 1) ∧ Q (.inl (some (jI s0))) h) : jWp d mX8_isFixed 72 [] [jI s0] h Q := by
  refine jw_ok (fun ok q => ?_)
  replace k := k ok 
  have c1 := k.1
  replace k := k.2
  exact wp_zreturn dX8_isFixed_72 rfl c1.1 c1.2 k
theorem bX8_isFixed_61 {d : Nat} {h : jH} {Q : jO → jH → Prop} {a2 : Int} (k : jOK h → j32 a2 → ((a2 ≠ 41 → jWp d mX8_isFixed 72 [] [jI 0] h Q) ∧ (a2 = 41 → jWp d mX8_isFixed 67 [] [] h Q))) : jWp d mX8_isFixed 61 [(2, jI a2)] [] h Q := by
  refine jw_ok (fun ok q => ?_)
  replace k := k ok (q _ (.head _))
  refine wp_iload_n 0 dX8_isFixed_61 rfl ?_
  refine wp_bipush dX8_isFixed_62 ⟨by decide, by decide⟩ ?_
  refine wp_icmp_ne 71 dX8_isFixed_64 rfl (fun q => ?_) (fun q => ?_)
  · replace k := k.1 q
    refine wp_iconst dX8_isFixed_71 ⟨by decide, by decide⟩ ?_
    refine wp_sub [] (ls' := []) rfl ?_
    exact k
  · replace k := k.2 q
    refine wp_sub [] (ls' := []) rfl ?_
    exact k
theorem bX8_partAt {d : Nat} {h : jH} {Q : jO → jH → Prop} {a0 : Int} {a1 : Int} (k : jOK h → j32 a0 → j32 a1 → ((a1 < 0 → Q (.inl (some (jI 0))) h) ∧ (¬ (a1 < 0) → ((a1 < 4 → j32 (4 + a1) ∧ jCall d mX8_cell [jI a0, jI (4 + a1)] h (fun o h17 => ∃ v17, o = .inl (some (jI v17)) ∧ Q (.inl (some (jI v17))) h17)) ∧ (¬ (a1 < 4) → Q (.inl (some (jI 0))) h))))) : jCall (d + 1) mX8_partAt [jI a0, jI a1] h Q := by
  refine jCall_of plX8 (Nat.le_of_ble_eq_true rfl) ?_
  show jWp (d + 1) mX8_partAt 0 [(0, jI a0), (1, jI a1)] [] h Q
  refine jw_ok (fun ok q => ?_)
  replace k := k ok (q _ (.head _)) (q _ (.tail _ (.head _)))
  refine wp_iload_n 1 dX8_partAt_0 rfl ?_
  refine wp_if_lt 9 dX8_partAt_1 rfl (fun q => ?_) (fun q => ?_)
  · replace k := k.1 q
    refine wp_iconst dX8_partAt_9 ⟨by decide, by decide⟩ ?_
    refine wp_goto 20 dX8_partAt_10 rfl ?_
    exact wp_iret dX8_partAt_20 rfl k
  · replace k := k.2 q
    refine wp_iload_n 1 dX8_partAt_4 rfl ?_
    refine wp_iconst dX8_partAt_5 ⟨by decide, by decide⟩ ?_
    refine wp_icmp_lt 13 dX8_partAt_6 rfl (fun q => ?_) (fun q => ?_)
    · replace k := k.1 q
      refine wp_iload_n 0 dX8_partAt_13 rfl ?_
      refine wp_iconst dX8_partAt_14 ⟨by decide, by decide⟩ ?_
      refine wp_iload_n 1 dX8_partAt_15 rfl ?_
      have c1 := k.1
      replace k := k.2
      refine wp_iadd dX8_partAt_16 c1 ?_
      refine wp_callS (y' := mX8_cell) (st := []) [jI a0, jI (4 + a1)] rfl fX8_cell kX8_15 nX8_cell dX8_partAt_17 (Nat.le_of_ble_eq_true rfl) ?_
      refine jCall.mono k (fun o h17 k => ?_)
      obtain ⟨v17, e, k⟩ := k
      subst e
      show jWp (d + 1) mX8_partAt 20 [(0, jI a0), (1, jI a1)] [jI v17] h17 Q
      exact wp_iret dX8_partAt_20 rfl k
    · replace k := k.2 q
      refine wp_iconst dX8_partAt_9 ⟨by decide, by decide⟩ ?_
      refine wp_goto 20 dX8_partAt_10 rfl ?_
      exact wp_iret dX8_partAt_20 rfl k
theorem bX8_sort {d : Nat} {h : jH} {Q : jO → jH → Prop} {a0 : Int} (k : jOK h → j32 a0 → 0 ≤ a0 ∧ Q (.inl (some (jI (a0 / 1000)))) h) : jCall d mX8_sort [jI a0] h Q := by
  refine jCall_of plX8 (Nat.le_of_ble_eq_true rfl) ?_
  show jWp d mX8_sort 0 [(0, jI a0)] [] h Q
  refine jw_ok (fun ok q => ?_)
  replace k := k ok (q _ (.head _))
  refine wp_iload_n 0 dX8_sort_0 rfl ?_
  refine wp_sipush dX8_sort_1 ⟨by decide, by decide⟩ ?_
  have c1 := k.1
  replace k := k.2
  refine wp_idiv dX8_sort_4 c1 (by decide) ?_
  exact wp_iret dX8_sort_5 rfl k
theorem bX8_mostBytes {d : Nat} {h : jH} {Q : jO → jH → Prop} {a0 : Int} (k : jOK h → j32 a0 → 0 ≤ a0 ∧ 0 ≤ (a0 / 10) ∧ Q (.inl (some (jI ((a0 / 10) % 100)))) h) : jCall d mX8_mostBytes [jI a0] h Q := by
  refine jCall_of plX8 (Nat.le_of_ble_eq_true rfl) ?_
  show jWp d mX8_mostBytes 0 [(0, jI a0)] [] h Q
  refine jw_ok (fun ok q => ?_)
  replace k := k ok (q _ (.head _))
  refine wp_iload_n 0 dX8_mostBytes_0 rfl ?_
  refine wp_bipush dX8_mostBytes_1 ⟨by decide, by decide⟩ ?_
  have c1 := k.1
  replace k := k.2
  refine wp_idiv dX8_mostBytes_3 c1 (by decide) ?_
  refine wp_bipush dX8_mostBytes_4 ⟨by decide, by decide⟩ ?_
  have c2 := k.1
  replace k := k.2
  refine wp_irem dX8_mostBytes_6 c2 (by decide) ?_
  exact wp_iret dX8_mostBytes_7 rfl k
theorem bX8_mayBeShorter {d : Nat} {h : jH} {Q : jO → jH → Prop} {a0 : Int} (k : jOK h → j32 a0 → (((a0 % 2) = 0 → Q (.inl (some (jI 0))) h) ∧ (¬ ((a0 % 2) = 0) → Q (.inl (some (jI 1))) h))) : jCall d mX8_mayBeShorter [jI a0] h Q := by
  refine jCall_of plX8 (Nat.le_of_ble_eq_true rfl) ?_
  show jWp d mX8_mayBeShorter 0 [(0, jI a0)] [] h Q
  refine jw_ok (fun ok q => ?_)
  replace k := k ok (q _ (.head _))
  refine wp_iload_n 0 dX8_mayBeShorter_0 rfl ?_
  refine wp_iconst dX8_mayBeShorter_1 ⟨by decide, by decide⟩ ?_
  refine wp_iand1 dX8_mayBeShorter_2 ?_
  refine wp_if_eq 10 dX8_mayBeShorter_3 rfl (fun q => ?_) (fun q => ?_)
  · replace k := k.1 q
    refine wp_iconst dX8_mayBeShorter_10 ⟨by decide, by decide⟩ ?_
    exact wp_zreturn dX8_mayBeShorter_11 rfl (by decide) (by decide) k
  · replace k := k.2 q
    refine wp_iconst dX8_mayBeShorter_6 ⟨by decide, by decide⟩ ?_
    refine wp_goto 11 dX8_mayBeShorter_7 rfl ?_
    exact wp_zreturn dX8_mayBeShorter_11 rfl (by decide) (by decide) k
theorem bX8_mayBeLeftOut {d : Nat} {h : jH} {Q : jO → jH → Prop} {a0 : Int} (k : jOK h → j32 a0 → 0 ≤ a0 ∧ (((a0 % 10) < 2 → Q (.inl (some (jI 0))) h) ∧ (¬ ((a0 % 10) < 2) → Q (.inl (some (jI 1))) h))) : jCall d mX8_mayBeLeftOut [jI a0] h Q := by
  refine jCall_of plX8 (Nat.le_of_ble_eq_true rfl) ?_
  show jWp d mX8_mayBeLeftOut 0 [(0, jI a0)] [] h Q
  refine jw_ok (fun ok q => ?_)
  replace k := k ok (q _ (.head _))
  refine wp_iload_n 0 dX8_mayBeLeftOut_0 rfl ?_
  refine wp_bipush dX8_mayBeLeftOut_1 ⟨by decide, by decide⟩ ?_
  have c1 := k.1
  replace k := k.2
  refine wp_irem dX8_mayBeLeftOut_3 c1 (by decide) ?_
  refine wp_iconst dX8_mayBeLeftOut_4 ⟨by decide, by decide⟩ ?_
  refine wp_icmp_lt 12 dX8_mayBeLeftOut_5 rfl (fun q => ?_) (fun q => ?_)
  · replace k := k.1 q
    refine wp_iconst dX8_mayBeLeftOut_12 ⟨by decide, by decide⟩ ?_
    exact wp_zreturn dX8_mayBeLeftOut_13 rfl (by decide) (by decide) k
  · replace k := k.2 q
    refine wp_iconst dX8_mayBeLeftOut_8 ⟨by decide, by decide⟩ ?_
    refine wp_goto 13 dX8_mayBeLeftOut_9 rfl ?_
    exact wp_zreturn dX8_mayBeLeftOut_13 rfl (by decide) (by decide) k
theorem bX8_fits {d : Nat} {h : jH} {Q : jO → jH → Prop} {a0 : Int} {a1 : Int} (k : jOK h → j32 a0 → j32 a1 → ((a0 < 48 → ((a1 ≠ 2 → Q (.inl (some (jI 0))) h) ∧ (a1 = 2 → jCall d mX8_isLetterOrMark [jI a0] h (fun o h18 => ∃ v18, o = .inl (some (jI v18)) ∧ ((v18 = 0 → Q (.inl (some (jI 0))) h18) ∧ (¬ (v18 = 0) → Q (.inl (some (jI 1))) h18)))))) ∧ (¬ (a0 < 48) → ((a0 ≤ 57 → Q (.inl (some (jI 1))) h) ∧ (¬ (a0 ≤ 57) → ((a1 ≠ 2 → Q (.inl (some (jI 0))) h) ∧ (a1 = 2 → jCall d mX8_isLetterOrMark [jI a0] h (fun o h18_1 => ∃ v18_1, o = .inl (some (jI v18_1)) ∧ ((v18_1 = 0 → Q (.inl (some (jI 0))) h18_1) ∧ (¬ (v18_1 = 0) → Q (.inl (some (jI 1))) h18_1)))))))))) : jCall (d + 1) mX8_fits [jI a0, jI a1] h Q := by
  refine jCall_of plX8 (Nat.le_of_ble_eq_true rfl) ?_
  show jWp (d + 1) mX8_fits 0 [(0, jI a0), (1, jI a1)] [] h Q
  refine jw_ok (fun ok q => ?_)
  replace k := k ok (q _ (.head _)) (q _ (.tail _ (.head _)))
  refine wp_iload_n 0 dX8_fits_0 rfl ?_
  refine wp_bipush dX8_fits_1 ⟨by decide, by decide⟩ ?_
  refine wp_icmp_lt 12 dX8_fits_3 rfl (fun q => ?_) (fun q => ?_)
  · replace k := k.1 q
    refine wp_iload_n 1 dX8_fits_12 rfl ?_
    refine wp_iconst dX8_fits_13 ⟨by decide, by decide⟩ ?_
    refine wp_icmp_ne 28 dX8_fits_14 rfl (fun q => ?_) (fun q => ?_)
    · replace k := k.1 q
      refine wp_iconst dX8_fits_28 ⟨by decide, by decide⟩ ?_
      exact wp_zreturn dX8_fits_29 rfl (by decide) (by decide) k
    · replace k := k.2 q
      refine wp_iload_n 0 dX8_fits_17 rfl ?_
      refine wp_callS (y' := mX8_isLetterOrMark) (st := []) [jI a0] rfl fX8_isLetterOrMark kX8_19 nX8_isLetterOrMark dX8_fits_18 (Nat.le_of_ble_eq_true rfl) ?_
      refine jCall.mono k (fun o h18 k => ?_)
      obtain ⟨v18, e, k⟩ := k
      subst e
      show jWp (d + 1) mX8_fits 21 [(0, jI a0), (1, jI a1)] [jI v18] h18 Q
      refine wp_if_eq 28 dX8_fits_21 rfl (fun q => ?_) (fun q => ?_)
      · replace k := k.1 q
        refine wp_iconst dX8_fits_28 ⟨by decide, by decide⟩ ?_
        exact wp_zreturn dX8_fits_29 rfl (by decide) (by decide) k
      · replace k := k.2 q
        refine wp_iconst dX8_fits_24 ⟨by decide, by decide⟩ ?_
        refine wp_goto 29 dX8_fits_25 rfl ?_
        exact wp_zreturn dX8_fits_29 rfl (by decide) (by decide) k
  · replace k := k.2 q
    refine wp_iload_n 0 dX8_fits_6 rfl ?_
    refine wp_bipush dX8_fits_7 ⟨by decide, by decide⟩ ?_
    refine wp_icmp_le 24 dX8_fits_9 rfl (fun q => ?_) (fun q => ?_)
    · replace k := k.1 q
      refine wp_iconst dX8_fits_24 ⟨by decide, by decide⟩ ?_
      refine wp_goto 29 dX8_fits_25 rfl ?_
      exact wp_zreturn dX8_fits_29 rfl (by decide) (by decide) k
    · replace k := k.2 q
      refine wp_iload_n 1 dX8_fits_12 rfl ?_
      refine wp_iconst dX8_fits_13 ⟨by decide, by decide⟩ ?_
      refine wp_icmp_ne 28 dX8_fits_14 rfl (fun q => ?_) (fun q => ?_)
      · replace k := k.1 q
        refine wp_iconst dX8_fits_28 ⟨by decide, by decide⟩ ?_
        exact wp_zreturn dX8_fits_29 rfl (by decide) (by decide) k
      · replace k := k.2 q
        refine wp_iload_n 0 dX8_fits_17 rfl ?_
        refine wp_callS (y' := mX8_isLetterOrMark) (st := []) [jI a0] rfl fX8_isLetterOrMark kX8_19 nX8_isLetterOrMark dX8_fits_18 (Nat.le_of_ble_eq_true rfl) ?_
        refine jCall.mono k (fun o h18_1 k => ?_)
        obtain ⟨v18_1, e, k⟩ := k
        subst e
        show jWp (d + 1) mX8_fits 21 [(0, jI a0), (1, jI a1)] [jI v18_1] h18_1 Q
        refine wp_if_eq 28 dX8_fits_21 rfl (fun q => ?_) (fun q => ?_)
        · replace k := k.1 q
          refine wp_iconst dX8_fits_28 ⟨by decide, by decide⟩ ?_
          exact wp_zreturn dX8_fits_29 rfl (by decide) (by decide) k
        · replace k := k.2 q
          refine wp_iconst dX8_fits_24 ⟨by decide, by decide⟩ ?_
          refine wp_goto 29 dX8_fits_25 rfl ?_
          exact wp_zreturn dX8_fits_29 rfl (by decide) (by decide) k
theorem bX8_isLetterOrMark {d : Nat} {h : jH} {Q : jO → jH → Prop} {a0 : Int} (k : jOK h → j32 a0 → ((a0 < 65 → ((a0 < 97 → ((a0 < 0 → Q (.inl (some (jI 0))) h) ∧ (¬ (a0 < 0) → 0 ≤ a0 ∧ a0 < 65536 ∧ jCall d mJ0_indexOf_0f7a4 [jR 5, jI a0] h (fun o h32 => ∃ v32, o = .inl (some (jI v32)) ∧ ((v32 < 0 → Q (.inl (some (jI 0))) h32) ∧ (¬ (v32 < 0) → Q (.inl (some (jI 1))) h32)))))) ∧ (¬ (a0 < 97) → ((a0 ≤ 122 → Q (.inl (some (jI 1))) h) ∧ (¬ (a0 ≤ 122) → ((a0 < 0 → Q (.inl (some (jI 0))) h) ∧ (¬ (a0 < 0) → 0 ≤ a0 ∧ a0 < 65536 ∧ jCall d mJ0_indexOf_0f7a4 [jR 5, jI a0] h (fun o h32_1 => ∃ v32_1, o = .inl (some (jI v32_1)) ∧ ((v32_1 < 0 → Q (.inl (some (jI 0))) h32_1) ∧ (¬ (v32_1 < 0) → Q (.inl (some (jI 1))) h32_1)))))))))) ∧ (¬ (a0 < 65) → ((a0 ≤ 90 → Q (.inl (some (jI 1))) h) ∧ (¬ (a0 ≤ 90) → ((a0 < 97 → ((a0 < 0 → Q (.inl (some (jI 0))) h) ∧ (¬ (a0 < 0) → 0 ≤ a0 ∧ a0 < 65536 ∧ jCall d mJ0_indexOf_0f7a4 [jR 5, jI a0] h (fun o h32_2 => ∃ v32_2, o = .inl (some (jI v32_2)) ∧ ((v32_2 < 0 → Q (.inl (some (jI 0))) h32_2) ∧ (¬ (v32_2 < 0) → Q (.inl (some (jI 1))) h32_2)))))) ∧ (¬ (a0 < 97) → ((a0 ≤ 122 → Q (.inl (some (jI 1))) h) ∧ (¬ (a0 ≤ 122) → ((a0 < 0 → Q (.inl (some (jI 0))) h) ∧ (¬ (a0 < 0) → 0 ≤ a0 ∧ a0 < 65536 ∧ jCall d mJ0_indexOf_0f7a4 [jR 5, jI a0] h (fun o h32_3 => ∃ v32_3, o = .inl (some (jI v32_3)) ∧ ((v32_3 < 0 → Q (.inl (some (jI 0))) h32_3) ∧ (¬ (v32_3 < 0) → Q (.inl (some (jI 1))) h32_3)))))))))))))) : jCall (d + 1) mX8_isLetterOrMark [jI a0] h Q := by
  refine jCall_of plX8 (Nat.le_of_ble_eq_true rfl) ?_
  show jWp (d + 1) mX8_isLetterOrMark 0 [(0, jI a0)] [] h Q
  refine jw_ok (fun ok q => ?_)
  replace k := k ok (q _ (.head _))
  refine wp_iload_n 0 dX8_isLetterOrMark_0 rfl ?_
  refine wp_bipush dX8_isLetterOrMark_1 ⟨by decide, by decide⟩ ?_
  refine wp_icmp_lt 12 dX8_isLetterOrMark_3 rfl (fun q => ?_) (fun q => ?_)
  · replace k := k.1 q
    refine wp_iload_n 0 dX8_isLetterOrMark_12 rfl ?_
    refine wp_bipush dX8_isLetterOrMark_13 ⟨by decide, by decide⟩ ?_
    refine wp_icmp_lt 24 dX8_isLetterOrMark_15 rfl (fun q => ?_) (fun q => ?_)
    · replace k := k.1 q
      refine wp_iload_n 0 dX8_isLetterOrMark_24 rfl ?_
      refine wp_if_lt 42 dX8_isLetterOrMark_25 rfl (fun q => ?_) (fun q => ?_)
      · replace k := k.1 q
        refine wp_iconst dX8_isLetterOrMark_42 ⟨by decide, by decide⟩ ?_
        exact wp_zreturn dX8_isLetterOrMark_43 rfl (by decide) (by decide) k
      · replace k := k.2 q
        refine wp_ldcS dX8_isLetterOrMark_28 rfl ?_
        refine wp_iload_n 0 dX8_isLetterOrMark_30 rfl ?_
        have c1 := k.1
        replace k := k.2
        have c2 := k.1
        replace k := k.2
        refine wp_i2c dX8_isLetterOrMark_31 c1 c2 ?_
        refine wp_callT (y' := mJ0_indexOf_0f7a4) (st := []) [jI a0] rfl rfl fJ0_indexOf_0f7a4 kX8_25 nJ0_indexOf_0f7a4 dX8_isLetterOrMark_32 (Nat.le_of_ble_eq_true rfl) ?_
        refine jCall.mono k (fun o h32 k => ?_)
        obtain ⟨v32, e, k⟩ := k
        subst e
        show jWp (d + 1) mX8_isLetterOrMark 35 [(0, jI a0)] [jI v32] h32 Q
        refine wp_if_lt 42 dX8_isLetterOrMark_35 rfl (fun q => ?_) (fun q => ?_)
        · replace k := k.1 q
          refine wp_iconst dX8_isLetterOrMark_42 ⟨by decide, by decide⟩ ?_
          exact wp_zreturn dX8_isLetterOrMark_43 rfl (by decide) (by decide) k
        · replace k := k.2 q
          refine wp_iconst dX8_isLetterOrMark_38 ⟨by decide, by decide⟩ ?_
          refine wp_goto 43 dX8_isLetterOrMark_39 rfl ?_
          exact wp_zreturn dX8_isLetterOrMark_43 rfl (by decide) (by decide) k
    · replace k := k.2 q
      refine wp_iload_n 0 dX8_isLetterOrMark_18 rfl ?_
      refine wp_bipush dX8_isLetterOrMark_19 ⟨by decide, by decide⟩ ?_
      refine wp_icmp_le 38 dX8_isLetterOrMark_21 rfl (fun q => ?_) (fun q => ?_)
      · replace k := k.1 q
        refine wp_iconst dX8_isLetterOrMark_38 ⟨by decide, by decide⟩ ?_
        refine wp_goto 43 dX8_isLetterOrMark_39 rfl ?_
        exact wp_zreturn dX8_isLetterOrMark_43 rfl (by decide) (by decide) k
      · replace k := k.2 q
        refine wp_iload_n 0 dX8_isLetterOrMark_24 rfl ?_
        refine wp_if_lt 42 dX8_isLetterOrMark_25 rfl (fun q => ?_) (fun q => ?_)
        · replace k := k.1 q
          refine wp_iconst dX8_isLetterOrMark_42 ⟨by decide, by decide⟩ ?_
          exact wp_zreturn dX8_isLetterOrMark_43 rfl (by decide) (by decide) k
        · replace k := k.2 q
          refine wp_ldcS dX8_isLetterOrMark_28 rfl ?_
          refine wp_iload_n 0 dX8_isLetterOrMark_30 rfl ?_
          have c3 := k.1
          replace k := k.2
          have c4 := k.1
          replace k := k.2
          refine wp_i2c dX8_isLetterOrMark_31 c3 c4 ?_
          refine wp_callT (y' := mJ0_indexOf_0f7a4) (st := []) [jI a0] rfl rfl fJ0_indexOf_0f7a4 kX8_25 nJ0_indexOf_0f7a4 dX8_isLetterOrMark_32 (Nat.le_of_ble_eq_true rfl) ?_
          refine jCall.mono k (fun o h32_1 k => ?_)
          obtain ⟨v32_1, e, k⟩ := k
          subst e
          show jWp (d + 1) mX8_isLetterOrMark 35 [(0, jI a0)] [jI v32_1] h32_1 Q
          refine wp_if_lt 42 dX8_isLetterOrMark_35 rfl (fun q => ?_) (fun q => ?_)
          · replace k := k.1 q
            refine wp_iconst dX8_isLetterOrMark_42 ⟨by decide, by decide⟩ ?_
            exact wp_zreturn dX8_isLetterOrMark_43 rfl (by decide) (by decide) k
          · replace k := k.2 q
            refine wp_iconst dX8_isLetterOrMark_38 ⟨by decide, by decide⟩ ?_
            refine wp_goto 43 dX8_isLetterOrMark_39 rfl ?_
            exact wp_zreturn dX8_isLetterOrMark_43 rfl (by decide) (by decide) k
  · replace k := k.2 q
    refine wp_iload_n 0 dX8_isLetterOrMark_6 rfl ?_
    refine wp_bipush dX8_isLetterOrMark_7 ⟨by decide, by decide⟩ ?_
    refine wp_icmp_le 38 dX8_isLetterOrMark_9 rfl (fun q => ?_) (fun q => ?_)
    · replace k := k.1 q
      refine wp_iconst dX8_isLetterOrMark_38 ⟨by decide, by decide⟩ ?_
      refine wp_goto 43 dX8_isLetterOrMark_39 rfl ?_
      exact wp_zreturn dX8_isLetterOrMark_43 rfl (by decide) (by decide) k
    · replace k := k.2 q
      refine wp_iload_n 0 dX8_isLetterOrMark_12 rfl ?_
      refine wp_bipush dX8_isLetterOrMark_13 ⟨by decide, by decide⟩ ?_
      refine wp_icmp_lt 24 dX8_isLetterOrMark_15 rfl (fun q => ?_) (fun q => ?_)
      · replace k := k.1 q
        refine wp_iload_n 0 dX8_isLetterOrMark_24 rfl ?_
        refine wp_if_lt 42 dX8_isLetterOrMark_25 rfl (fun q => ?_) (fun q => ?_)
        · replace k := k.1 q
          refine wp_iconst dX8_isLetterOrMark_42 ⟨by decide, by decide⟩ ?_
          exact wp_zreturn dX8_isLetterOrMark_43 rfl (by decide) (by decide) k
        · replace k := k.2 q
          refine wp_ldcS dX8_isLetterOrMark_28 rfl ?_
          refine wp_iload_n 0 dX8_isLetterOrMark_30 rfl ?_
          have c5 := k.1
          replace k := k.2
          have c6 := k.1
          replace k := k.2
          refine wp_i2c dX8_isLetterOrMark_31 c5 c6 ?_
          refine wp_callT (y' := mJ0_indexOf_0f7a4) (st := []) [jI a0] rfl rfl fJ0_indexOf_0f7a4 kX8_25 nJ0_indexOf_0f7a4 dX8_isLetterOrMark_32 (Nat.le_of_ble_eq_true rfl) ?_
          refine jCall.mono k (fun o h32_2 k => ?_)
          obtain ⟨v32_2, e, k⟩ := k
          subst e
          show jWp (d + 1) mX8_isLetterOrMark 35 [(0, jI a0)] [jI v32_2] h32_2 Q
          refine wp_if_lt 42 dX8_isLetterOrMark_35 rfl (fun q => ?_) (fun q => ?_)
          · replace k := k.1 q
            refine wp_iconst dX8_isLetterOrMark_42 ⟨by decide, by decide⟩ ?_
            exact wp_zreturn dX8_isLetterOrMark_43 rfl (by decide) (by decide) k
          · replace k := k.2 q
            refine wp_iconst dX8_isLetterOrMark_38 ⟨by decide, by decide⟩ ?_
            refine wp_goto 43 dX8_isLetterOrMark_39 rfl ?_
            exact wp_zreturn dX8_isLetterOrMark_43 rfl (by decide) (by decide) k
      · replace k := k.2 q
        refine wp_iload_n 0 dX8_isLetterOrMark_18 rfl ?_
        refine wp_bipush dX8_isLetterOrMark_19 ⟨by decide, by decide⟩ ?_
        refine wp_icmp_le 38 dX8_isLetterOrMark_21 rfl (fun q => ?_) (fun q => ?_)
        · replace k := k.1 q
          refine wp_iconst dX8_isLetterOrMark_38 ⟨by decide, by decide⟩ ?_
          refine wp_goto 43 dX8_isLetterOrMark_39 rfl ?_
          exact wp_zreturn dX8_isLetterOrMark_43 rfl (by decide) (by decide) k
        · replace k := k.2 q
          refine wp_iload_n 0 dX8_isLetterOrMark_24 rfl ?_
          refine wp_if_lt 42 dX8_isLetterOrMark_25 rfl (fun q => ?_) (fun q => ?_)
          · replace k := k.1 q
            refine wp_iconst dX8_isLetterOrMark_42 ⟨by decide, by decide⟩ ?_
            exact wp_zreturn dX8_isLetterOrMark_43 rfl (by decide) (by decide) k
          · replace k := k.2 q
            refine wp_ldcS dX8_isLetterOrMark_28 rfl ?_
            refine wp_iload_n 0 dX8_isLetterOrMark_30 rfl ?_
            have c7 := k.1
            replace k := k.2
            have c8 := k.1
            replace k := k.2
            refine wp_i2c dX8_isLetterOrMark_31 c7 c8 ?_
            refine wp_callT (y' := mJ0_indexOf_0f7a4) (st := []) [jI a0] rfl rfl fJ0_indexOf_0f7a4 kX8_25 nJ0_indexOf_0f7a4 dX8_isLetterOrMark_32 (Nat.le_of_ble_eq_true rfl) ?_
            refine jCall.mono k (fun o h32_3 k => ?_)
            obtain ⟨v32_3, e, k⟩ := k
            subst e
            show jWp (d + 1) mX8_isLetterOrMark 35 [(0, jI a0)] [jI v32_3] h32_3 Q
            refine wp_if_lt 42 dX8_isLetterOrMark_35 rfl (fun q => ?_) (fun q => ?_)
            · replace k := k.1 q
              refine wp_iconst dX8_isLetterOrMark_42 ⟨by decide, by decide⟩ ?_
              exact wp_zreturn dX8_isLetterOrMark_43 rfl (by decide) (by decide) k
            · replace k := k.2 q
              refine wp_iconst dX8_isLetterOrMark_38 ⟨by decide, by decide⟩ ?_
              refine wp_goto 43 dX8_isLetterOrMark_39 rfl ?_
              exact wp_zreturn dX8_isLetterOrMark_43 rfl (by decide) (by decide) k
theorem bX8_wants {d : Nat} {h : jH} {Q : jO → jH → Prop}  (k : jOK h → 0 ≤ (91 : Int) ∧ Q (.inl (some (jI (91 / 7)))) h) : jCall d mX8_wants [] h Q := by
  refine jCall_of plX8 (Nat.le_of_ble_eq_true rfl) ?_
  show jWp d mX8_wants 0 [] [] h Q
  refine jw_ok (fun ok q => ?_)
  replace k := k ok 
  refine wp_gets (n := 3) (Or.inr (Or.inr ⟨rfl, rfl, rfl⟩)) gX8_31 dX8_wants_0 ?_
  refine wp_slenN jS_n3 dX8_wants_3 (Or.inr (Or.inr rfl)) ?_
  refine wp_bipush dX8_wants_4 ⟨by decide, by decide⟩ ?_
  have c1 := k.1
  replace k := k.2
  refine wp_idiv dX8_wants_6 c1 (by decide) ?_
  exact wp_iret dX8_wants_7 rfl k
theorem bX8_isWantOf {d : Nat} {h : jH} {Q : jO → jH → Prop} {a0 : Int} {a1 : Int} (k : jOK h → j32 a0 → j32 a1 → jCall d mX8_wantCell [jI a0, jI 0] h (fun o h3 => ∃ v3, o = .inl (some (jI v3)) ∧ ((a1 < v3 → Q (.inl (some (jI 0))) h3) ∧ (¬ (a1 < v3) → jCall d mX8_wantCell [jI a0, jI 1] h3 (fun o h12 => ∃ v12, o = .inl (some (jI v12)) ∧ ((v12 < a1 → Q (.inl (some (jI 0))) h12) ∧ (¬ (v12 < a1) → Q (.inl (some (jI 1))) h12))))))) : jCall (d + 1) mX8_isWantOf [jI a0, jI a1] h Q := by
  refine jCall_of plX8 (Nat.le_of_ble_eq_true rfl) ?_
  show jWp (d + 1) mX8_isWantOf 0 [(0, jI a0), (1, jI a1)] [] h Q
  refine jw_ok (fun ok q => ?_)
  replace k := k ok (q _ (.head _)) (q _ (.tail _ (.head _)))
  refine wp_iload_n 1 dX8_isWantOf_0 rfl ?_
  refine wp_iload_n 0 dX8_isWantOf_1 rfl ?_
  refine wp_iconst dX8_isWantOf_2 ⟨by decide, by decide⟩ ?_
  refine wp_callS (y' := mX8_wantCell) (st := [jI a1]) [jI a0, jI 0] rfl fX8_wantCell kX8_34 nX8_wantCell dX8_isWantOf_3 (Nat.le_of_ble_eq_true rfl) ?_
  refine jCall.mono k (fun o h3 k => ?_)
  obtain ⟨v3, e, k⟩ := k
  subst e
  show jWp (d + 1) mX8_isWantOf 6 [(0, jI a0), (1, jI a1)] [jI v3, jI a1] h3 Q
  refine wp_icmp_lt 22 dX8_isWantOf_6 rfl (fun q => ?_) (fun q => ?_)
  · replace k := k.1 q
    refine wp_iconst dX8_isWantOf_22 ⟨by decide, by decide⟩ ?_
    exact wp_zreturn dX8_isWantOf_23 rfl (by decide) (by decide) k
  · replace k := k.2 q
    refine wp_iload_n 1 dX8_isWantOf_9 rfl ?_
    refine wp_iload_n 0 dX8_isWantOf_10 rfl ?_
    refine wp_iconst dX8_isWantOf_11 ⟨by decide, by decide⟩ ?_
    refine wp_callS (y' := mX8_wantCell) (st := [jI a1]) [jI a0, jI 1] rfl fX8_wantCell kX8_34 nX8_wantCell dX8_isWantOf_12 (Nat.le_of_ble_eq_true rfl) ?_
    refine jCall.mono k (fun o h12 k => ?_)
    obtain ⟨v12, e, k⟩ := k
    subst e
    show jWp (d + 1) mX8_isWantOf 15 [(0, jI a0), (1, jI a1)] [jI v12, jI a1] h12 Q
    refine wp_icmp_gt 22 dX8_isWantOf_15 rfl (fun q => ?_) (fun q => ?_)
    · replace k := k.1 q
      refine wp_iconst dX8_isWantOf_22 ⟨by decide, by decide⟩ ?_
      exact wp_zreturn dX8_isWantOf_23 rfl (by decide) (by decide) k
    · replace k := k.2 q
      refine wp_iconst dX8_isWantOf_18 ⟨by decide, by decide⟩ ?_
      refine wp_goto 23 dX8_isWantOf_19 rfl ?_
      exact wp_zreturn dX8_isWantOf_23 rfl (by decide) (by decide) k
theorem bX8_wantsOne {d : Nat} {h : jH} {Q : jO → jH → Prop} {a0 : Int} (k : jOK h → j32 a0 → jCall d mX8_wantCell [jI a0, jI 2] h (fun o h2 => ∃ v2, o = .inl (some (jI v2)) ∧ ((v2 ≠ 1 → Q (.inl (some (jI 0))) h2) ∧ (v2 = 1 → Q (.inl (some (jI 1))) h2)))) : jCall (d + 1) mX8_wantsOne [jI a0] h Q := by
  refine jCall_of plX8 (Nat.le_of_ble_eq_true rfl) ?_
  show jWp (d + 1) mX8_wantsOne 0 [(0, jI a0)] [] h Q
  refine jw_ok (fun ok q => ?_)
  replace k := k ok (q _ (.head _))
  refine wp_iload_n 0 dX8_wantsOne_0 rfl ?_
  refine wp_iconst dX8_wantsOne_1 ⟨by decide, by decide⟩ ?_
  refine wp_callS (y' := mX8_wantCell) (st := []) [jI a0, jI 2] rfl fX8_wantCell kX8_34 nX8_wantCell dX8_wantsOne_2 (Nat.le_of_ble_eq_true rfl) ?_
  refine jCall.mono k (fun o h2 k => ?_)
  obtain ⟨v2, e, k⟩ := k
  subst e
  show jWp (d + 1) mX8_wantsOne 5 [(0, jI a0)] [jI v2] h2 Q
  refine wp_iconst dX8_wantsOne_5 ⟨by decide, by decide⟩ ?_
  refine wp_icmp_ne 13 dX8_wantsOne_6 rfl (fun q => ?_) (fun q => ?_)
  · replace k := k.1 q
    refine wp_iconst dX8_wantsOne_13 ⟨by decide, by decide⟩ ?_
    exact wp_zreturn dX8_wantsOne_14 rfl (by decide) (by decide) k
  · replace k := k.2 q
    refine wp_iconst dX8_wantsOne_9 ⟨by decide, by decide⟩ ?_
    refine wp_goto 14 dX8_wantsOne_10 rfl ?_
    exact wp_zreturn dX8_wantsOne_14 rfl (by decide) (by decide) k
theorem bX8_wanted {d : Nat} {h : jH} {Q : jO → jH → Prop} {a0 : Int} {a1 : Int} (k : jOK h → j32 a0 → j32 a1 → ((a1 < 0 → Q (.inl (some (jI (-1)))) h) ∧ (¬ (a1 < 0) → ((a1 < 4 → j32 (3 + a1) ∧ jCall d mX8_wantCell [jI a0, jI (3 + a1)] h (fun o h17 => ∃ v17, o = .inl (some (jI v17)) ∧ Q (.inl (some (jI v17))) h17)) ∧ (¬ (a1 < 4) → Q (.inl (some (jI (-1)))) h))))) : jCall (d + 1) mX8_wanted [jI a0, jI a1] h Q := by
  refine jCall_of plX8 (Nat.le_of_ble_eq_true rfl) ?_
  show jWp (d + 1) mX8_wanted 0 [(0, jI a0), (1, jI a1)] [] h Q
  refine jw_ok (fun ok q => ?_)
  replace k := k ok (q _ (.head _)) (q _ (.tail _ (.head _)))
  refine wp_iload_n 1 dX8_wanted_0 rfl ?_
  refine wp_if_lt 9 dX8_wanted_1 rfl (fun q => ?_) (fun q => ?_)
  · replace k := k.1 q
    refine wp_iconst dX8_wanted_9 ⟨by decide, by decide⟩ ?_
    refine wp_goto 20 dX8_wanted_10 rfl ?_
    exact wp_iret dX8_wanted_20 rfl k
  · replace k := k.2 q
    refine wp_iload_n 1 dX8_wanted_4 rfl ?_
    refine wp_iconst dX8_wanted_5 ⟨by decide, by decide⟩ ?_
    refine wp_icmp_lt 13 dX8_wanted_6 rfl (fun q => ?_) (fun q => ?_)
    · replace k := k.1 q
      refine wp_iload_n 0 dX8_wanted_13 rfl ?_
      refine wp_iconst dX8_wanted_14 ⟨by decide, by decide⟩ ?_
      refine wp_iload_n 1 dX8_wanted_15 rfl ?_
      have c1 := k.1
      replace k := k.2
      refine wp_iadd dX8_wanted_16 c1 ?_
      refine wp_callS (y' := mX8_wantCell) (st := []) [jI a0, jI (3 + a1)] rfl fX8_wantCell kX8_34 nX8_wantCell dX8_wanted_17 (Nat.le_of_ble_eq_true rfl) ?_
      refine jCall.mono k (fun o h17 k => ?_)
      obtain ⟨v17, e, k⟩ := k
      subst e
      show jWp (d + 1) mX8_wanted 20 [(0, jI a0), (1, jI a1)] [jI v17] h17 Q
      exact wp_iret dX8_wanted_20 rfl k
    · replace k := k.2 q
      refine wp_iconst dX8_wanted_9 ⟨by decide, by decide⟩ ?_
      refine wp_goto 20 dX8_wanted_10 rfl ?_
      exact wp_iret dX8_wanted_20 rfl k
theorem bX8_wantCell {d : Nat} {h : jH} {Q : jO → jH → Prop} {a0 : Int} {a1 : Int} (k : jOK h → j32 a0 → j32 a1 → j32 (a0 * 7) ∧ j32 ((a0 * 7) + a1) ∧ ((a0 < 0 → Q (.inl (some (jI (-1)))) h) ∧ (¬ (a0 < 0) → ((((a0 * 7) + a1) < 0 → Q (.inl (some (jI (-1)))) h) ∧ (¬ (((a0 * 7) + a1) < 0) → ((((a0 * 7) + a1) < 91 → 0 ≤ ((a0 * 7) + a1) ∧ ((a0 * 7) + a1) < 91 ∧ (j32 ((jS 3).getD ((a0 * 7) + a1).toNat 0) → Q (.inl (some (jI ((jS 3).getD ((a0 * 7) + a1).toNat 0)))) h)) ∧ (¬ (((a0 * 7) + a1) < 91) → Q (.inl (some (jI (-1)))) h))))))) : jCall d mX8_wantCell [jI a0, jI a1] h Q := by
  refine jCall_of plX8 (Nat.le_of_ble_eq_true rfl) ?_
  show jWp d mX8_wantCell 0 [(0, jI a0), (1, jI a1)] [] h Q
  refine jw_ok (fun ok q => ?_)
  replace k := k ok (q _ (.head _)) (q _ (.tail _ (.head _)))
  refine wp_iload_n 0 dX8_wantCell_0 rfl ?_
  refine wp_bipush dX8_wantCell_1 ⟨by decide, by decide⟩ ?_
  have c1 := k.1
  replace k := k.2
  refine wp_imul dX8_wantCell_3 c1 ?_
  refine wp_iload_n 1 dX8_wantCell_4 rfl ?_
  have c2 := k.1
  replace k := k.2
  refine wp_iadd dX8_wantCell_5 c2 ?_
  refine wp_istore_n [1, 0] (ls' := [(0, jI a0), (2, jI ((a0 * 7) + a1))]) dX8_wantCell_6 (by decide) rfl ?_
  refine wp_iload_n 0 dX8_wantCell_7 rfl ?_
  refine wp_if_lt 23 dX8_wantCell_8 rfl (fun q => ?_) (fun q => ?_)
  · replace k := k.1 q
    refine wp_iconst dX8_wantCell_23 ⟨by decide, by decide⟩ ?_
    refine wp_goto 32 dX8_wantCell_24 rfl ?_
    exact wp_iret dX8_wantCell_32 rfl k
  · replace k := k.2 q
    refine wp_iload_n 1 dX8_wantCell_11 rfl ?_
    refine wp_if_lt 23 dX8_wantCell_12 rfl (fun q => ?_) (fun q => ?_)
    · replace k := k.1 q
      refine wp_iconst dX8_wantCell_23 ⟨by decide, by decide⟩ ?_
      refine wp_goto 32 dX8_wantCell_24 rfl ?_
      exact wp_iret dX8_wantCell_32 rfl k
    · replace k := k.2 q
      refine wp_iload_n 1 dX8_wantCell_15 rfl ?_
      refine wp_gets (n := 3) (Or.inr (Or.inr ⟨rfl, rfl, rfl⟩)) gX8_31 dX8_wantCell_16 ?_
      refine wp_slenN jS_n3 dX8_wantCell_19 (Or.inr (Or.inr rfl)) ?_
      refine wp_icmp_lt 27 dX8_wantCell_20 rfl (fun q => ?_) (fun q => ?_)
      · replace k := k.1 q
        refine wp_gets (n := 3) (Or.inr (Or.inr ⟨rfl, rfl, rfl⟩)) gX8_31 dX8_wantCell_27 ?_
        refine wp_iload_n 1 dX8_wantCell_30 rfl ?_
        have c3 := k.1
        replace k := k.2
        have c4 := k.1
        replace k := k.2
        refine wp_saldN jS_n3 dX8_wantCell_31 (Or.inr (Or.inr rfl)) c3 c4 (fun q => ?_)
        have f5 := q
        replace k := k q
        exact wp_iret dX8_wantCell_32 rfl k
      · replace k := k.2 q
        refine wp_iconst dX8_wantCell_23 ⟨by decide, by decide⟩ ?_
        refine wp_goto 32 dX8_wantCell_24 rfl ?_
        exact wp_iret dX8_wantCell_32 rfl k
