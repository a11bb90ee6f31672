/-! BLOCKS (made by wip/whole/gen/genblk.py) -/
theorem bX6_init {d : Nat} {h : jH} {Q : jO → jH → Prop} {a0 : Nat} (k : jOK h → a0 ≠ 0 ∧ hK (sN h 14 20 20) a0 = 5 ∧ hK (sN (sR (sN h 14 20 20) 400 a0 (hS h)) 14 20 20) a0 = 5 ∧ jWp (d + 1) mX6_init 24 [(0, jR a0), (1, jI 0)] [] (sR (sN (sR (sN h 14 20 20) 400 a0 (hS h)) 14 20 20) 401 a0 (hS (sN h 14 20 20))) Q) : jCall (d + 1) mX6_init [jR a0] h Q := by
  refine jCall_of plX6 (Nat.le_of_ble_eq_true rfl) ?_
  show jWp (d + 1) mX6_init 0 [(0, jR a0)] [] h Q
  refine jw_ok (fun ok q => ?_)
  replace k := k ok 
  refine wp_aload_n 0 dX6_init_0 rfl ?_
  have c1 := k.1
  replace k := k.2
  refine wp_objInit dX6_init_1 kX6_3 c1 (Nat.le_of_ble_eq_true rfl) ?_
  refine wp_aload_n 0 dX6_init_4 rfl ?_
  refine wp_bipush dX6_init_5 ⟨by decide, by decide⟩ ?_
  refine wp_anewa (Or.inl ⟨rfl, rfl⟩) qX6_9 dX6_init_7 ⟨by decide, by decide⟩ ?_
  have c2 := k.1
  replace k := k.2
  refine wp_putR (ci := 4) (j := 0) rfl (by decide) gX6_11 dX6_init_10 c2 (Or.inr ⟨rfl, rfl, rfl⟩) rfl ?_
  refine wp_aload_n 0 dX6_init_13 rfl ?_
  refine wp_bipush dX6_init_14 ⟨by decide, by decide⟩ ?_
  refine wp_anewa (Or.inl ⟨rfl, rfl⟩) qX6_9 dX6_init_16 ⟨by decide, by decide⟩ ?_
  have c3 := k.1
  replace k := k.2
  refine wp_putR (ci := 4) (j := 1) rfl (by decide) gX6_17 dX6_init_19 c3 (Or.inr ⟨rfl, rfl, rfl⟩) rfl ?_
  refine wp_iconst dX6_init_22 ⟨by decide, by decide⟩ ?_
  refine wp_istore_n [1, 0] (ls' := [(0, jR a0), (1, jI 0)]) dX6_init_23 (by decide) rfl ?_
  exact k
theorem bX6_init_24 {d : Nat} {h : jH} {Q : jO → jH → Prop} {a0 : Nat} {a1 : Int} (k : jOK h → j32 a1 → ((20 ≤ a1 → hK h a0 = 5 ∧ Q (.inl none) (sI h 402 a0 0)) ∧ (¬ (20 ≤ a1) → hK h a0 = 5 ∧ (hS h) ≠ 0 ∧ jCall d mX4_init [jR (hS h)] (sN h 3 0 6) (fun o h39 => o = .inl none ∧ hK h39 (hR h 400 a0) = 14 ∧ 0 ≤ a1 ∧ a1 < hN h39 (hR h 400 a0) ∧ hK h39 (hS h) = 3 ∧ j32 (a1 + 1) ∧ jWp (d + 1) mX6_init 24 [(0, jR a0), (1, jI (a1 + 1))] [] (sQ h39 (hR h 400 a0) a1 (hS h)) Q)))) : jWp (d + 1) mX6_init 24 [(0, jR a0), (1, jI a1)] [] h Q := by
  refine jw_ok (fun ok q => ?_)
  replace k := k ok (q _ (.tail _ (.head _)))
  refine wp_iload_n 1 dX6_init_24 rfl ?_
  refine wp_bipush dX6_init_25 ⟨by decide, by decide⟩ ?_
  refine wp_icmp_ge 49 dX6_init_27 rfl (fun q => ?_) (fun q => ?_)
  · replace k := k.1 q
    refine wp_aload_n 0 dX6_init_49 rfl ?_
    refine wp_iconst dX6_init_50 ⟨by decide, by decide⟩ ?_
    have c1 := k.1
    replace k := k.2
    refine wp_putI (ci := 4) (j := 2) rfl (by decide) gX6_21 dX6_init_51 c1 (Or.inl rfl) rfl ?_
    exact wp_return dX6_init_54 rfl k
  · replace k := k.2 q
    refine wp_aload_n 0 dX6_init_30 rfl ?_
    have c2 := k.1
    replace k := k.2
    refine wp_getR (ci := 4) (j := 0) rfl (by decide) gX6_11 dX6_init_31 c2 rfl ?_
    refine wp_iload_n 1 dX6_init_34 rfl ?_
    refine wp_new (ci := 2) rfl qX6_9 iX4 inX4 dX6_init_35 ?_
    refine wp_dup dX6_init_38 rfl ?_
    have c3 := k.1
    replace k := k.2
    refine wp_callI (y' := mX4_init) (st := [jR (hS h), jI a1, jR (hR h 400 a0)]) [] rfl fX4_init kX6_20 nX4_init dX6_init_39 (Nat.le_of_ble_eq_true rfl) c3 ?_
    refine jCall.mono k (fun o h39 k => ?_)
    obtain ⟨e, k⟩ := k
    refine ⟨e, ?_⟩
    show jWp (d + 1) mX6_init 42 [(0, jR a0), (1, jI a1)] [jR (hS h), jI a1, jR (hR h 400 a0)] h39 Q
    have c4 := k.1
    replace k := k.2
    have c5 := k.1
    replace k := k.2
    have c6 := k.1
    replace k := k.2
    have c7 := k.1
    replace k := k.2
    refine wp_aastore (n := 14) dX6_init_42 c4 (Or.inl ⟨rfl, c7⟩) c5 c6 ?_
    have c8 := k.1
    replace k := k.2
    refine wp_iinc 1 [1, 0] (ls' := [(0, jR a0), (1, jI (a1 + 1))]) dX6_init_43 rfl c8 ⟨by decide, by decide⟩ (by decide) rfl ?_
    refine wp_goto 24 dX6_init_46 rfl ?_
    exact k
theorem bX6_count {d : Nat} {h : jH} {Q : jO → jH → Prop} {a0 : Nat} (k : jOK h → hK h a0 = 5 ∧ (j32 (hI h 402 a0) → Q (.inl (some (jI (hI h 402 a0)))) h)) : jCall d mX6_count [jR a0] h Q := by
  refine jCall_of plX6 (Nat.le_of_ble_eq_true rfl) ?_
  show jWp d mX6_count 0 [(0, jR a0)] [] h Q
  refine jw_ok (fun ok q => ?_)
  replace k := k ok 
  refine wp_aload_n 0 dX6_count_0 rfl ?_
  have c1 := k.1
  replace k := k.2
  refine wp_getI (ci := 4) (j := 2) rfl (by decide) gX6_21 dX6_count_1 c1 rfl (fun q => ?_)
  have f2 := q
  replace k := k q
  exact wp_iret dX6_count_4 rfl k
theorem bX6_clear {d : Nat} {h : jH} {Q : jO → jH → Prop} {a0 : Nat} (k : jOK h → hK h a0 = 5 ∧ Q (.inl none) (sI h 402 a0 0)) : jCall d mX6_clear [jR a0] h Q := by
  refine jCall_of plX6 (Nat.le_of_ble_eq_true rfl) ?_
  show jWp d mX6_clear 0 [(0, jR a0)] [] h Q
  refine jw_ok (fun ok q => ?_)
  replace k := k ok 
  refine wp_aload_n 0 dX6_clear_0 rfl ?_
  refine wp_iconst dX6_clear_1 ⟨by decide, by decide⟩ ?_
  have c1 := k.1
  replace k := k.2
  refine wp_putI (ci := 4) (j := 2) rfl (by decide) gX6_21 dX6_clear_2 c1 (Or.inl rfl) rfl ?_
  exact wp_return dX6_clear_5 rfl k
theorem bX6_at {d : Nat} {h : jH} {Q : jO → jH → Prop} {a0 : Nat} {a1 : Int} (k : jOK h → j32 a1 → ((a1 < 0 → Q (.inl (some (jR 0))) h) ∧ (¬ (a1 < 0) → hK h a0 = 5 ∧ (j32 (hI h 402 a0) → ((a1 < (hI h 402 a0) → hK h (hR h 400 a0) = 14 ∧ 0 ≤ a1 ∧ a1 < hN h (hR h 400 a0) ∧ Q (.inl (some (jR (hQ h (hR h 400 a0) a1)))) h) ∧ (¬ (a1 < (hI h 402 a0)) → Q (.inl (some (jR 0))) h)))))) : jCall d mX6_at [jR a0, jI a1] h Q := by
  refine jCall_of plX6 (Nat.le_of_ble_eq_true rfl) ?_
  show jWp d mX6_at 0 [(0, jR a0), (1, jI a1)] [] h Q
  refine jw_ok (fun ok q => ?_)
  replace k := k ok (q _ (.tail _ (.head _)))
  refine wp_iload_n 1 dX6_at_0 rfl ?_
  refine wp_if_lt 12 dX6_at_1 rfl (fun q => ?_) (fun q => ?_)
  · replace k := k.1 q
    refine wp_null dX6_at_12 ?_
    refine wp_goto 22 dX6_at_13 rfl ?_
    exact wp_areturn dX6_at_22 rfl k
  · replace k := k.2 q
    refine wp_iload_n 1 dX6_at_4 rfl ?_
    refine wp_aload_n 0 dX6_at_5 rfl ?_
    have c1 := k.1
    replace k := k.2
    refine wp_getI (ci := 4) (j := 2) rfl (by decide) gX6_21 dX6_at_6 c1 rfl (fun q => ?_)
    have f2 := q
    replace k := k q
    refine wp_icmp_lt 16 dX6_at_9 rfl (fun q => ?_) (fun q => ?_)
    · replace k := k.1 q
      refine wp_aload_n 0 dX6_at_16 rfl ?_
      refine wp_getR (ci := 4) (j := 0) rfl (by decide) gX6_11 dX6_at_17 c1 rfl ?_
      refine wp_iload_n 1 dX6_at_20 rfl ?_
      have c3 := k.1
      replace k := k.2
      have c4 := k.1
      replace k := k.2
      have c5 := k.1
      replace k := k.2
      refine wp_aaload (n := 14) dX6_at_21 c3 (by decide) c4 c5 ?_
      exact wp_areturn dX6_at_22 rfl k
    · replace k := k.2 q
      refine wp_null dX6_at_12 ?_
      refine wp_goto 22 dX6_at_13 rfl ?_
      exact wp_areturn dX6_at_22 rfl k
theorem bX6_grow {d : Nat} {h : jH} {Q : jO → jH → Prop} {a0 : Nat} (k : jOK h → hK h a0 = 5 ∧ (j32 (hI h 402 a0) → (((hI h 402 a0) < 20 → j32 ((hI h 402 a0) + 1) ∧ (j32 (hI (sI h 402 a0 ((hI h 402 a0) + 1)) 402 a0) → j32 ((hI (sI h 402 a0 ((hI h 402 a0) + 1)) 402 a0) - 1) ∧ hK h (hR h 400 a0) = 14 ∧ 0 ≤ ((hI (sI h 402 a0 ((hI h 402 a0) + 1)) 402 a0) - 1) ∧ ((hI (sI h 402 a0 ((hI h 402 a0) + 1)) 402 a0) - 1) < hN h (hR h 400 a0) ∧ Q (.inl (some (jR (hQ h (hR h 400 a0) ((hI (sI h 402 a0 ((hI h 402 a0) + 1)) 402 a0) - 1))))) (sI h 402 a0 ((hI h 402 a0) + 1)))) ∧ (¬ ((hI h 402 a0) < 20) → Q (.inl (some (jR 0))) h)))) : jCall d mX6_grow [jR a0] h Q := by
  refine jCall_of plX6 (Nat.le_of_ble_eq_true rfl) ?_
  show jWp d mX6_grow 0 [(0, jR a0)] [] h Q
  refine jw_ok (fun ok q => ?_)
  replace k := k ok 
  refine wp_aload_n 0 dX6_grow_0 rfl ?_
  have c1 := k.1
  replace k := k.2
  refine wp_getI (ci := 4) (j := 2) rfl (by decide) gX6_21 dX6_grow_1 c1 rfl (fun q => ?_)
  have f2 := q
  replace k := k q
  refine wp_bipush dX6_grow_4 ⟨by decide, by decide⟩ ?_
  refine wp_icmp_lt 11 dX6_grow_6 rfl (fun q => ?_) (fun q => ?_)
  · replace k := k.1 q
    refine wp_aload_n 0 dX6_grow_11 rfl ?_
    refine wp_dup dX6_grow_12 rfl ?_
    refine wp_getI (ci := 4) (j := 2) rfl (by decide) gX6_21 dX6_grow_13 c1 rfl (fun q => ?_)
    refine wp_iconst dX6_grow_16 ⟨by decide, by decide⟩ ?_
    have c3 := k.1
    replace k := k.2
    refine wp_iadd dX6_grow_17 c3 ?_
    refine wp_putI (ci := 4) (j := 2) rfl (by decide) gX6_21 dX6_grow_18 c1 (Or.inl rfl) rfl ?_
    refine wp_aload_n 0 dX6_grow_21 rfl ?_
    refine wp_getR (ci := 4) (j := 0) rfl (by decide) gX6_11 dX6_grow_22 c1 rfl ?_
    refine wp_aload_n 0 dX6_grow_25 rfl ?_
    refine wp_getI (ci := 4) (j := 2) rfl (by decide) gX6_21 dX6_grow_26 c1 rfl (fun q => ?_)
    have f4 := q
    replace k := k q
    refine wp_iconst dX6_grow_29 ⟨by decide, by decide⟩ ?_
    have c5 := k.1
    replace k := k.2
    refine wp_isub dX6_grow_30 c5 ?_
    have c6 := k.1
    replace k := k.2
    have c7 := k.1
    replace k := k.2
    have c8 := k.1
    replace k := k.2
    refine wp_aaload (n := 14) dX6_grow_31 c6 (by decide) c7 c8 ?_
    exact wp_areturn dX6_grow_32 rfl k
  · replace k := k.2 q
    refine wp_null dX6_grow_9 ?_
    exact wp_areturn dX6_grow_10 rfl k
theorem bX6_copyFrom {d : Nat} {h : jH} {Q : jO → jH → Prop} {a0 : Nat} {a1 : Nat} (k : jOK h → jWp (d + 1) mX6_copyFrom 2 [(0, jR a0), (1, jR a1), (2, jI 0)] [] h Q) : jCall (d + 1) mX6_copyFrom [jR a0, jR a1] h Q := by
  refine jCall_of plX6 (Nat.le_of_ble_eq_true rfl) ?_
  show jWp (d + 1) mX6_copyFrom 0 [(0, jR a0), (1, jR a1)] [] h Q
  refine jw_ok (fun ok q => ?_)
  replace k := k ok 
  refine wp_iconst dX6_copyFrom_0 ⟨by decide, by decide⟩ ?_
  refine wp_istore_n [1, 2, 0] (ls' := [(0, jR a0), (1, jR a1), (2, jI 0)]) dX6_copyFrom_1 (by decide) rfl ?_
  exact k
theorem bX6_copyFrom_2 {d : Nat} {h : jH} {Q : jO → jH → Prop} {a0 : Nat} {a1 : Nat} {a2 : Int} (k : jOK h → j32 a2 → hK h a1 = 5 ∧ (j32 (hI h 402 a1) → (((hI h 402 a1) ≤ a2 → hK h a0 = 5 ∧ Q (.inl none) (sI h 402 a0 (hI h 402 a1))) ∧ (¬ ((hI h 402 a1) ≤ a2) → hK h a0 = 5 ∧ hK h (hR h 400 a0) = 14 ∧ 0 ≤ a2 ∧ a2 < hN h (hR h 400 a0) ∧ hK h (hR h 400 a1) = 14 ∧ a2 < hN h (hR h 400 a1) ∧ hK h (hQ h (hR h 400 a0) a2) = 3 ∧ jCall d mX4_copyFrom [jR (hQ h (hR h 400 a0) a2), jR (hQ h (hR h 400 a1) a2)] h (fun o h22 => o = .inl none ∧ j32 (a2 + 1) ∧ jWp (d + 1) mX6_copyFrom 2 [(0, jR a0), (1, jR a1), (2, jI (a2 + 1))] [] h22 Q))))) : jWp (d + 1) mX6_copyFrom 2 [(0, jR a0), (1, jR a1), (2, jI a2)] [] h Q := by
  refine jw_ok (fun ok q => ?_)
  replace k := k ok (q _ (.tail _ (.tail _ (.head _))))
  refine wp_iload_n 2 dX6_copyFrom_2 rfl ?_
  refine wp_aload_n 1 dX6_copyFrom_3 rfl ?_
  have c1 := k.1
  replace k := k.2
  refine wp_getI (ci := 4) (j := 2) rfl (by decide) gX6_21 dX6_copyFrom_4 c1 rfl (fun q => ?_)
  have f2 := q
  replace k := k q
  refine wp_icmp_ge 31 dX6_copyFrom_7 rfl (fun q => ?_) (fun q => ?_)
  · replace k := k.1 q
    refine wp_aload_n 0 dX6_copyFrom_31 rfl ?_
    refine wp_aload_n 1 dX6_copyFrom_32 rfl ?_
    refine wp_getI (ci := 4) (j := 2) rfl (by decide) gX6_21 dX6_copyFrom_33 c1 rfl (fun q => ?_)
    have c3 := k.1
    replace k := k.2
    refine wp_putI (ci := 4) (j := 2) rfl (by decide) gX6_21 dX6_copyFrom_36 c3 (Or.inl rfl) rfl ?_
    exact wp_return dX6_copyFrom_39 rfl k
  · replace k := k.2 q
    refine wp_aload_n 0 dX6_copyFrom_10 rfl ?_
    have c4 := k.1
    replace k := k.2
    refine wp_getR (ci := 4) (j := 0) rfl (by decide) gX6_11 dX6_copyFrom_11 c4 rfl ?_
    refine wp_iload_n 2 dX6_copyFrom_14 rfl ?_
    have c5 := k.1
    replace k := k.2
    have c6 := k.1
    replace k := k.2
    have c7 := k.1
    replace k := k.2
    refine wp_aaload (n := 14) dX6_copyFrom_15 c5 (by decide) c6 c7 ?_
    refine wp_aload_n 1 dX6_copyFrom_16 rfl ?_
    refine wp_getR (ci := 4) (j := 0) rfl (by decide) gX6_11 dX6_copyFrom_17 c1 rfl ?_
    refine wp_iload_n 2 dX6_copyFrom_20 rfl ?_
    have c8 := k.1
    replace k := k.2
    have c9 := k.1
    replace k := k.2
    refine wp_aaload (n := 14) dX6_copyFrom_21 c8 (by decide) c6 c9 ?_
    have c10 := k.1
    replace k := k.2
    refine wp_callV (ci := 2) (y' := mX4_copyFrom) (st := []) [jR (hQ h (hR h 400 a1) a2)] rfl rfl rfl fX4_copyFrom kX6_25 nX4_copyFrom dX6_copyFrom_22 (Nat.le_of_ble_eq_true rfl) c10 ?_
    refine jCall.mono k (fun o h22 k => ?_)
    obtain ⟨e, k⟩ := k
    subst e
    show jWp (d + 1) mX6_copyFrom 25 [(0, jR a0), (1, jR a1), (2, jI a2)] [] h22 Q
    have c11 := k.1
    replace k := k.2
    refine wp_iinc 2 [1, 2, 0] (ls' := [(0, jR a0), (1, jR a1), (2, jI (a2 + 1))]) dX6_copyFrom_25 rfl c11 ⟨by decide, by decide⟩ (by decide) rfl ?_
    refine wp_goto 2 dX6_copyFrom_28 rfl ?_
    exact k
theorem bX6_append {d : Nat} {h : jH} {Q : jO → jH → Prop} {a0 : Nat} {a1 : Nat} (k : jOK h → hK h a0 = 5 ∧ (j32 (hI h 402 a0) → hK h a1 = 5 ∧ (j32 (hI h 402 a1) → j32 ((hI h 402 a0) + (hI h 402 a1)) ∧ ((((hI h 402 a0) + (hI h 402 a1)) ≤ 20 → jWp (d + 1) mX6_append 18 [(0, jR a0), (1, jR a1), (2, jI 0)] [] h Q) ∧ (¬ (((hI h 402 a0) + (hI h 402 a1)) ≤ 20) → Q (.inl (some (jI 0))) h))))) : jCall (d + 1) mX6_append [jR a0, jR a1] h Q := by
  refine jCall_of plX6 (Nat.le_of_ble_eq_true rfl) ?_
  show jWp (d + 1) mX6_append 0 [(0, jR a0), (1, jR a1)] [] h Q
  refine jw_ok (fun ok q => ?_)
  replace k := k ok 
  refine wp_aload_n 0 dX6_append_0 rfl ?_
  have c1 := k.1
  replace k := k.2
  refine wp_getI (ci := 4) (j := 2) rfl (by decide) gX6_21 dX6_append_1 c1 rfl (fun q => ?_)
  have f2 := q
  replace k := k q
  refine wp_aload_n 1 dX6_append_4 rfl ?_
  have c3 := k.1
  replace k := k.2
  refine wp_getI (ci := 4) (j := 2) rfl (by decide) gX6_21 dX6_append_5 c3 rfl (fun q => ?_)
  have f4 := q
  replace k := k q
  have c5 := k.1
  replace k := k.2
  refine wp_iadd dX6_append_8 c5 ?_
  refine wp_bipush dX6_append_9 ⟨by decide, by decide⟩ ?_
  refine wp_icmp_le 16 dX6_append_11 rfl (fun q => ?_) (fun q => ?_)
  · replace k := k.1 q
    refine wp_iconst dX6_append_16 ⟨by decide, by decide⟩ ?_
    refine wp_istore_n [1, 2, 0] (ls' := [(0, jR a0), (1, jR a1), (2, jI 0)]) dX6_append_17 (by decide) rfl ?_
    exact k
  · replace k := k.2 q
    refine wp_iconst dX6_append_14 ⟨by decide, by decide⟩ ?_
    exact wp_zreturn dX6_append_15 rfl (by decide) (by decide) k
theorem bX6_append_18 {d : Nat} {h : jH} {Q : jO → jH → Prop} {a0 : Nat} {a1 : Nat} {a2 : Int} (k : jOK h → j32 a2 → hK h a1 = 5 ∧ (j32 (hI h 402 a1) → (((hI h 402 a1) ≤ a2 → hK h a0 = 5 ∧ (j32 (hI h 402 a0) → j32 ((hI h 402 a0) + (hI h 402 a1)) ∧ Q (.inl (some (jI 1))) (sI h 402 a0 ((hI h 402 a0) + (hI h 402 a1))))) ∧ (¬ ((hI h 402 a1) ≤ a2) → hK h a0 = 5 ∧ (j32 (hI h 402 a0) → j32 ((hI h 402 a0) + a2) ∧ hK h (hR h 400 a0) = 14 ∧ 0 ≤ ((hI h 402 a0) + a2) ∧ ((hI h 402 a0) + a2) < hN h (hR h 400 a0) ∧ hK h (hR h 400 a1) = 14 ∧ 0 ≤ a2 ∧ a2 < hN h (hR h 400 a1) ∧ hK h (hQ h (hR h 400 a0) ((hI h 402 a0) + a2)) = 3 ∧ jCall d mX4_copyFrom [jR (hQ h (hR h 400 a0) ((hI h 402 a0) + a2)), jR (hQ h (hR h 400 a1) a2)] h (fun o h43 => o = .inl none ∧ j32 (a2 + 1) ∧ jWp (d + 1) mX6_append 18 [(0, jR a0), (1, jR a1), (2, jI (a2 + 1))] [] h43 Q)))))) : jWp (d + 1) mX6_append 18 [(0, jR a0), (1, jR a1), (2, jI a2)] [] h Q := by
  refine jw_ok (fun ok q => ?_)
  replace k := k ok (q _ (.tail _ (.tail _ (.head _))))
  refine wp_iload_n 2 dX6_append_18 rfl ?_
  refine wp_aload_n 1 dX6_append_19 rfl ?_
  have c1 := k.1
  replace k := k.2
  refine wp_getI (ci := 4) (j := 2) rfl (by decide) gX6_21 dX6_append_20 c1 rfl (fun q => ?_)
  have f2 := q
  replace k := k q
  refine wp_icmp_ge 52 dX6_append_23 rfl (fun q => ?_) (fun q => ?_)
  · replace k := k.1 q
    refine wp_aload_n 0 dX6_append_52 rfl ?_
    refine wp_dup dX6_append_53 rfl ?_
    have c3 := k.1
    replace k := k.2
    refine wp_getI (ci := 4) (j := 2) rfl (by decide) gX6_21 dX6_append_54 c3 rfl (fun q => ?_)
    have f4 := q
    replace k := k q
    refine wp_aload_n 1 dX6_append_57 rfl ?_
    refine wp_getI (ci := 4) (j := 2) rfl (by decide) gX6_21 dX6_append_58 c1 rfl (fun q => ?_)
    have c5 := k.1
    replace k := k.2
    refine wp_iadd dX6_append_61 c5 ?_
    refine wp_putI (ci := 4) (j := 2) rfl (by decide) gX6_21 dX6_append_62 c3 (Or.inl rfl) rfl ?_
    refine wp_iconst dX6_append_65 ⟨by decide, by decide⟩ ?_
    exact wp_zreturn dX6_append_66 rfl (by decide) (by decide) k
  · replace k := k.2 q
    refine wp_aload_n 0 dX6_append_26 rfl ?_
    have c6 := k.1
    replace k := k.2
    refine wp_getR (ci := 4) (j := 0) rfl (by decide) gX6_11 dX6_append_27 c6 rfl ?_
    refine wp_aload_n 0 dX6_append_30 rfl ?_
    refine wp_getI (ci := 4) (j := 2) rfl (by decide) gX6_21 dX6_append_31 c6 rfl (fun q => ?_)
    have f7 := q
    replace k := k q
    refine wp_iload_n 2 dX6_append_34 rfl ?_
    have c8 := k.1
    replace k := k.2
    refine wp_iadd dX6_append_35 c8 ?_
    have c9 := k.1
    replace k := k.2
    have c10 := k.1
    replace k := k.2
    have c11 := k.1
    replace k := k.2
    refine wp_aaload (n := 14) dX6_append_36 c9 (by decide) c10 c11 ?_
    refine wp_aload_n 1 dX6_append_37 rfl ?_
    refine wp_getR (ci := 4) (j := 0) rfl (by decide) gX6_11 dX6_append_38 c1 rfl ?_
    refine wp_iload_n 2 dX6_append_41 rfl ?_
    have c12 := k.1
    replace k := k.2
    have c13 := k.1
    replace k := k.2
    have c14 := k.1
    replace k := k.2
    refine wp_aaload (n := 14) dX6_append_42 c12 (by decide) c13 c14 ?_
    have c15 := k.1
    replace k := k.2
    refine wp_callV (ci := 2) (y' := mX4_copyFrom) (st := []) [jR (hQ h (hR h 400 a1) a2)] rfl rfl rfl fX4_copyFrom kX6_25 nX4_copyFrom dX6_append_43 (Nat.le_of_ble_eq_true rfl) c15 ?_
    refine jCall.mono k (fun o h43 k => ?_)
    obtain ⟨e, k⟩ := k
    subst e
    show jWp (d + 1) mX6_append 46 [(0, jR a0), (1, jR a1), (2, jI a2)] [] h43 Q
    have c16 := k.1
    replace k := k.2
    refine wp_iinc 2 [1, 2, 0] (ls' := [(0, jR a0), (1, jR a1), (2, jI (a2 + 1))]) dX6_append_46 rfl c16 ⟨by decide, by decide⟩ (by decide) rfl ?_
    refine wp_goto 18 dX6_append_49 rfl ?_
    exact k
theorem bX6_isSameAs {d : Nat} {h : jH} {Q : jO → jH → Prop} {a0 : Nat} {a1 : Nat} (k : jOK h → hK h a0 = 5 ∧ (j32 (hI h 402 a0) → hK h a1 = 5 ∧ (j32 (hI h 402 a1) → (((hI h 402 a0) = (hI h 402 a1) → jWp (d + 1) mX6_isSameAs 15 [(0, jR a0), (1, jR a1), (2, jI 0)] [] h Q) ∧ (¬ ((hI h 402 a0) = (hI h 402 a1)) → Q (.inl (some (jI 0))) h))))) : jCall (d + 1) mX6_isSameAs [jR a0, jR a1] h Q := by
  refine jCall_of plX6 (Nat.le_of_ble_eq_true rfl) ?_
  show jWp (d + 1) mX6_isSameAs 0 [(0, jR a0), (1, jR a1)] [] h Q
  refine jw_ok (fun ok q => ?_)
  replace k := k ok 
  refine wp_aload_n 0 dX6_isSameAs_0 rfl ?_
  have c1 := k.1
  replace k := k.2
  refine wp_getI (ci := 4) (j := 2) rfl (by decide) gX6_21 dX6_isSameAs_1 c1 rfl (fun q => ?_)
  have f2 := q
  replace k := k q
  refine wp_aload_n 1 dX6_isSameAs_4 rfl ?_
  have c3 := k.1
  replace k := k.2
  refine wp_getI (ci := 4) (j := 2) rfl (by decide) gX6_21 dX6_isSameAs_5 c3 rfl (fun q => ?_)
  have f4 := q
  replace k := k q
  refine wp_icmp_eq 13 dX6_isSameAs_8 rfl (fun q => ?_) (fun q => ?_)
  · replace k := k.1 q
    refine wp_iconst dX6_isSameAs_13 ⟨by decide, by decide⟩ ?_
    refine wp_istore_n [1, 2, 0] (ls' := [(0, jR a0), (1, jR a1), (2, jI 0)]) dX6_isSameAs_14 (by decide) rfl ?_
    exact k
  · replace k := k.2 q
    refine wp_iconst dX6_isSameAs_11 ⟨by decide, by decide⟩ ?_
    exact wp_zreturn dX6_isSameAs_12 rfl (by decide) (by decide) k
theorem bX6_isSameAs_15 {d : Nat} {h : jH} {Q : jO → jH → Prop} {a0 : Nat} {a1 : Nat} {a2 : Int} (k : jOK h → j32 a2 → hK h a0 = 5 ∧ (j32 (hI h 402 a0) → (((hI h 402 a0) ≤ a2 → Q (.inl (some (jI 1))) h) ∧ (¬ ((hI h 402 a0) ≤ a2) → hK h (hR h 400 a0) = 14 ∧ 0 ≤ a2 ∧ a2 < hN h (hR h 400 a0) ∧ hK h a1 = 5 ∧ hK h (hR h 400 a1) = 14 ∧ a2 < hN h (hR h 400 a1) ∧ hK h (hQ h (hR h 400 a0) a2) = 3 ∧ jCall d mX4_isSameAs [jR (hQ h (hR h 400 a0) a2), jR (hQ h (hR h 400 a1) a2)] h (fun o h35 => ∃ v35, o = .inl (some (jI v35)) ∧ ((v35 ≠ 0 → j32 (a2 + 1) ∧ jWp (d + 1) mX6_isSameAs 15 [(0, jR a0), (1, jR a1), (2, jI (a2 + 1))] [] h35 Q) ∧ (v35 = 0 → Q (.inl (some (jI 0))) h35))))))) : jWp (d + 1) mX6_isSameAs 15 [(0, jR a0), (1, jR a1), (2, jI a2)] [] h Q := by
  refine jw_ok (fun ok q => ?_)
  replace k := k ok (q _ (.tail _ (.tail _ (.head _))))
  refine wp_iload_n 2 dX6_isSameAs_15 rfl ?_
  refine wp_aload_n 0 dX6_isSameAs_16 rfl ?_
  have c1 := k.1
  replace k := k.2
  refine wp_getI (ci := 4) (j := 2) rfl (by decide) gX6_21 dX6_isSameAs_17 c1 rfl (fun q => ?_)
  have f2 := q
  replace k := k q
  refine wp_icmp_ge 49 dX6_isSameAs_20 rfl (fun q => ?_) (fun q => ?_)
  · replace k := k.1 q
    refine wp_iconst dX6_isSameAs_49 ⟨by decide, by decide⟩ ?_
    exact wp_zreturn dX6_isSameAs_50 rfl (by decide) (by decide) k
  · replace k := k.2 q
    refine wp_aload_n 0 dX6_isSameAs_23 rfl ?_
    refine wp_getR (ci := 4) (j := 0) rfl (by decide) gX6_11 dX6_isSameAs_24 c1 rfl ?_
    refine wp_iload_n 2 dX6_isSameAs_27 rfl ?_
    have c3 := k.1
    replace k := k.2
    have c4 := k.1
    replace k := k.2
    have c5 := k.1
    replace k := k.2
    refine wp_aaload (n := 14) dX6_isSameAs_28 c3 (by decide) c4 c5 ?_
    refine wp_aload_n 1 dX6_isSameAs_29 rfl ?_
    have c6 := k.1
    replace k := k.2
    refine wp_getR (ci := 4) (j := 0) rfl (by decide) gX6_11 dX6_isSameAs_30 c6 rfl ?_
    refine wp_iload_n 2 dX6_isSameAs_33 rfl ?_
    have c7 := k.1
    replace k := k.2
    have c8 := k.1
    replace k := k.2
    refine wp_aaload (n := 14) dX6_isSameAs_34 c7 (by decide) c4 c8 ?_
    have c9 := k.1
    replace k := k.2
    refine wp_callV (ci := 2) (y' := mX4_isSameAs) (st := []) [jR (hQ h (hR h 400 a1) a2)] rfl rfl rfl fX4_isSameAs kX6_29 nX4_isSameAs dX6_isSameAs_35 (Nat.le_of_ble_eq_true rfl) c9 ?_
    refine jCall.mono k (fun o h35 k => ?_)
    obtain ⟨v35, e, k⟩ := k
    subst e
    show jWp (d + 1) mX6_isSameAs 38 [(0, jR a0), (1, jR a1), (2, jI a2)] [jI v35] h35 Q
    refine wp_if_ne 43 dX6_isSameAs_38 rfl (fun q => ?_) (fun q => ?_)
    · replace k := k.1 q
      have c10 := k.1
      replace k := k.2
      refine wp_iinc 2 [1, 2, 0] (ls' := [(0, jR a0), (1, jR a1), (2, jI (a2 + 1))]) dX6_isSameAs_43 rfl c10 ⟨by decide, by decide⟩ (by decide) rfl ?_
      refine wp_goto 15 dX6_isSameAs_46 rfl ?_
      exact k
    · replace k := k.2 q
      refine wp_iconst dX6_isSameAs_41 ⟨by decide, by decide⟩ ?_
      exact wp_zreturn dX6_isSameAs_42 rfl (by decide) (by decide) k
theorem bX6_placeOf {d : Nat} {h : jH} {Q : jO → jH → Prop} {a0 : Nat} {a1 : Int} {a2 : Int} (k : jOK h → j32 a1 → j32 a2 → jWp (d + 1) mX6_placeOf 2 [(0, jR a0), (1, jI a1), (2, jI a2), (3, jI 0)] [] h Q) : jCall (d + 1) mX6_placeOf [jR a0, jI a1, jI a2] h Q := by
  refine jCall_of plX6 (Nat.le_of_ble_eq_true rfl) ?_
  show jWp (d + 1) mX6_placeOf 0 [(0, jR a0), (1, jI a1), (2, jI a2)] [] h Q
  refine jw_ok (fun ok q => ?_)
  replace k := k ok (q _ (.tail _ (.head _))) (q _ (.tail _ (.tail _ (.head _))))
  refine wp_iconst dX6_placeOf_0 ⟨by decide, by decide⟩ ?_
  refine wp_istore_n [1, 2, 3, 0] (ls' := [(0, jR a0), (1, jI a1), (2, jI a2), (3, jI 0)]) dX6_placeOf_1 (by decide) rfl ?_
  exact k
theorem bX6_placeOf_2 {d : Nat} {h : jH} {Q : jO → jH → Prop} {a0 : Nat} {a1 : Int} {a2 : Int} {a3 : Int} (k : jOK h → j32 a1 → j32 a2 → j32 a3 → hK h a0 = 5 ∧ (j32 (hI h 402 a0) → (((hI h 402 a0) ≤ a3 → Q (.inl (some (jI (-1)))) h) ∧ (¬ ((hI h 402 a0) ≤ a3) → hK h (hR h 400 a0) = 14 ∧ 0 ≤ a3 ∧ a3 < hN h (hR h 400 a0) ∧ hK h (hQ h (hR h 400 a0) a3) = 3 ∧ jCall d mX4_ai [jR (hQ h (hR h 400 a0) a3)] h (fun o h16 => ∃ v16, o = .inl (some (jI v16)) ∧ ((v16 ≠ a1 → j32 (a3 + 1) ∧ jWp (d + 1) mX6_placeOf 2 [(0, jR a0), (1, jI a1), (2, jI a2), (3, jI (a3 + 1))] [] h16 Q) ∧ (v16 = a1 → hK h16 a0 = 5 ∧ hK h16 (hR h16 400 a0) = 14 ∧ 0 ≤ a3 ∧ a3 < hN h16 (hR h16 400 a0) ∧ hK h16 (hQ h16 (hR h16 400 a0) a3) = 3 ∧ jCall d mX4_digits [jR (hQ h16 (hR h16 400 a0) a3)] h16 (fun o h29 => ∃ v29, o = .inl (some (jI v29)) ∧ ((v29 ≠ a2 → j32 (a3 + 1) ∧ jWp (d + 1) mX6_placeOf 2 [(0, jR a0), (1, jI a1), (2, jI a2), (3, jI (a3 + 1))] [] h29 Q) ∧ (v29 = a2 → Q (.inl (some (jI a3))) h29)))))))))) : jWp (d + 1) mX6_placeOf 2 [(0, jR a0), (1, jI a1), (2, jI a2), (3, jI a3)] [] h Q := by
  refine jw_ok (fun ok q => ?_)
  replace k := k ok (q _ (.tail _ (.head _))) (q _ (.tail _ (.tail _ (.head _)))) (q _ (.tail _ (.tail _ (.tail _ (.head _)))))
  refine wp_iload_n 3 dX6_placeOf_2 rfl ?_
  refine wp_aload_n 0 dX6_placeOf_3 rfl ?_
  have c1 := k.1
  replace k := k.2
  refine wp_getI (ci := 4) (j := 2) rfl (by decide) gX6_21 dX6_placeOf_4 c1 rfl (fun q => ?_)
  have f2 := q
  replace k := k q
  refine wp_icmp_ge 44 dX6_placeOf_7 rfl (fun q => ?_) (fun q => ?_)
  · replace k := k.1 q
    refine wp_iconst dX6_placeOf_44 ⟨by decide, by decide⟩ ?_
    exact wp_iret dX6_placeOf_45 rfl k
  · replace k := k.2 q
    refine wp_aload_n 0 dX6_placeOf_10 rfl ?_
    refine wp_getR (ci := 4) (j := 0) rfl (by decide) gX6_11 dX6_placeOf_11 c1 rfl ?_
    refine wp_iload_n 3 dX6_placeOf_14 rfl ?_
    have c3 := k.1
    replace k := k.2
    have c4 := k.1
    replace k := k.2
    have c5 := k.1
    replace k := k.2
    refine wp_aaload (n := 14) dX6_placeOf_15 c3 (by decide) c4 c5 ?_
    have c6 := k.1
    replace k := k.2
    refine wp_callV (ci := 2) (y' := mX4_ai) (st := []) [] rfl rfl rfl fX4_ai kX6_33 nX4_ai dX6_placeOf_16 (Nat.le_of_ble_eq_true rfl) c6 ?_
    refine jCall.mono k (fun o h16 k => ?_)
    obtain ⟨v16, e, k⟩ := k
    subst e
    show jWp (d + 1) mX6_placeOf 19 [(0, jR a0), (1, jI a1), (2, jI a2), (3, jI a3)] [jI v16] h16 Q
    refine wp_iload_n 1 dX6_placeOf_19 rfl ?_
    refine wp_icmp_ne 38 dX6_placeOf_20 rfl (fun q => ?_) (fun q => ?_)
    · replace k := k.1 q
      have c7 := k.1
      replace k := k.2
      refine wp_iinc 3 [1, 2, 3, 0] (ls' := [(0, jR a0), (1, jI a1), (2, jI a2), (3, jI (a3 + 1))]) dX6_placeOf_38 rfl c7 ⟨by decide, by decide⟩ (by decide) rfl ?_
      refine wp_goto 2 dX6_placeOf_41 rfl ?_
      exact k
    · replace k := k.2 q
      refine wp_aload_n 0 dX6_placeOf_23 rfl ?_
      have c8 := k.1
      replace k := k.2
      refine wp_getR (ci := 4) (j := 0) rfl (by decide) gX6_11 dX6_placeOf_24 c8 rfl ?_
      refine wp_iload_n 3 dX6_placeOf_27 rfl ?_
      have c9 := k.1
      replace k := k.2
      have c10 := k.1
      replace k := k.2
      have c11 := k.1
      replace k := k.2
      refine wp_aaload (n := 14) dX6_placeOf_28 c9 (by decide) c10 c11 ?_
      have c12 := k.1
      replace k := k.2
      refine wp_callV (ci := 2) (y' := mX4_digits) (st := []) [] rfl rfl rfl fX4_digits kX6_37 nX4_digits dX6_placeOf_29 (Nat.le_of_ble_eq_true rfl) c12 ?_
      refine jCall.mono k (fun o h29 k => ?_)
      obtain ⟨v29, e, k⟩ := k
      subst e
      show jWp (d + 1) mX6_placeOf 32 [(0, jR a0), (1, jI a1), (2, jI a2), (3, jI a3)] [jI v29] h29 Q
      refine wp_iload_n 2 dX6_placeOf_32 rfl ?_
      refine wp_icmp_ne 38 dX6_placeOf_33 rfl (fun q => ?_) (fun q => ?_)
      · replace k := k.1 q
        have c13 := k.1
        replace k := k.2
        refine wp_iinc 3 [1, 2, 3, 0] (ls' := [(0, jR a0), (1, jI a1), (2, jI a2), (3, jI (a3 + 1))]) dX6_placeOf_38 rfl c13 ⟨by decide, by decide⟩ (by decide) rfl ?_
        refine wp_goto 2 dX6_placeOf_41 rfl ?_
        exact k
      · replace k := k.2 q
        refine wp_iload_n 3 dX6_placeOf_36 rfl ?_
        exact wp_iret dX6_placeOf_37 rfl k
theorem bX6_placeOfFamily {d : Nat} {h : jH} {Q : jO → jH → Prop} {a0 : Nat} {a1 : Int} (k : jOK h → j32 a1 → jWp (d + 1) mX6_placeOfFamily 2 [(0, jR a0), (1, jI a1), (2, jI 0)] [] h Q) : jCall (d + 1) mX6_placeOfFamily [jR a0, jI a1] h Q := by
  refine jCall_of plX6 (Nat.le_of_ble_eq_true rfl) ?_
  show jWp (d + 1) mX6_placeOfFamily 0 [(0, jR a0), (1, jI a1)] [] h Q
  refine jw_ok (fun ok q => ?_)
  replace k := k ok (q _ (.tail _ (.head _)))
  refine wp_iconst dX6_placeOfFamily_0 ⟨by decide, by decide⟩ ?_
  refine wp_istore_n [1, 2, 0] (ls' := [(0, jR a0), (1, jI a1), (2, jI 0)]) dX6_placeOfFamily_1 (by decide) rfl ?_
  exact k
theorem bX6_placeOfFamily_2 {d : Nat} {h : jH} {Q : jO → jH → Prop} {a0 : Nat} {a1 : Int} {a2 : Int} (k : jOK h → j32 a1 → j32 a2 → hK h a0 = 5 ∧ (j32 (hI h 402 a0) → (((hI h 402 a0) ≤ a2 → Q (.inl (some (jI (-1)))) h) ∧ (¬ ((hI h 402 a0) ≤ a2) → hK h (hR h 400 a0) = 14 ∧ 0 ≤ a2 ∧ a2 < hN h (hR h 400 a0) ∧ hK h (hQ h (hR h 400 a0) a2) = 3 ∧ jCall d mX4_family [jR (hQ h (hR h 400 a0) a2)] h (fun o h16 => ∃ v16, o = .inl (some (jI v16)) ∧ ((v16 ≠ a1 → j32 (a2 + 1) ∧ jWp (d + 1) mX6_placeOfFamily 2 [(0, jR a0), (1, jI a1), (2, jI (a2 + 1))] [] h16 Q) ∧ (v16 = a1 → Q (.inl (some (jI a2))) h16))))))) : jWp (d + 1) mX6_placeOfFamily 2 [(0, jR a0), (1, jI a1), (2, jI a2)] [] h Q := by
  refine jw_ok (fun ok q => ?_)
  replace k := k ok (q _ (.tail _ (.head _))) (q _ (.tail _ (.tail _ (.head _))))
  refine wp_iload_n 2 dX6_placeOfFamily_2 rfl ?_
  refine wp_aload_n 0 dX6_placeOfFamily_3 rfl ?_
  have c1 := k.1
  replace k := k.2
  refine wp_getI (ci := 4) (j := 2) rfl (by decide) gX6_21 dX6_placeOfFamily_4 c1 rfl (fun q => ?_)
  have f2 := q
  replace k := k q
  refine wp_icmp_ge 31 dX6_placeOfFamily_7 rfl (fun q => ?_) (fun q => ?_)
  · replace k := k.1 q
    refine wp_iconst dX6_placeOfFamily_31 ⟨by decide, by decide⟩ ?_
    exact wp_iret dX6_placeOfFamily_32 rfl k
  · replace k := k.2 q
    refine wp_aload_n 0 dX6_placeOfFamily_10 rfl ?_
    refine wp_getR (ci := 4) (j := 0) rfl (by decide) gX6_11 dX6_placeOfFamily_11 c1 rfl ?_
    refine wp_iload_n 2 dX6_placeOfFamily_14 rfl ?_
    have c3 := k.1
    replace k := k.2
    have c4 := k.1
    replace k := k.2
    have c5 := k.1
    replace k := k.2
    refine wp_aaload (n := 14) dX6_placeOfFamily_15 c3 (by decide) c4 c5 ?_
    have c6 := k.1
    replace k := k.2
    refine wp_callV (ci := 2) (y' := mX4_family) (st := []) [] rfl rfl rfl fX4_family kX6_40 nX4_family dX6_placeOfFamily_16 (Nat.le_of_ble_eq_true rfl) c6 ?_
    refine jCall.mono k (fun o h16 k => ?_)
    obtain ⟨v16, e, k⟩ := k
    subst e
    show jWp (d + 1) mX6_placeOfFamily 19 [(0, jR a0), (1, jI a1), (2, jI a2)] [jI v16] h16 Q
    refine wp_iload_n 1 dX6_placeOfFamily_19 rfl ?_
    refine wp_icmp_ne 25 dX6_placeOfFamily_20 rfl (fun q => ?_) (fun q => ?_)
    · replace k := k.1 q
      have c7 := k.1
      replace k := k.2
      refine wp_iinc 2 [1, 2, 0] (ls' := [(0, jR a0), (1, jI a1), (2, jI (a2 + 1))]) dX6_placeOfFamily_25 rfl c7 ⟨by decide, by decide⟩ (by decide) rfl ?_
      refine wp_goto 2 dX6_placeOfFamily_28 rfl ?_
      exact k
    · replace k := k.2 q
      refine wp_iload_n 2 dX6_placeOfFamily_23 rfl ?_
      exact wp_iret dX6_placeOfFamily_24 rfl k
theorem bX6_isRepeated {d : Nat} {h : jH} {Q : jO → jH → Prop} {a0 : Nat} {a1 : Int} (k : jOK h → j32 a1 → ((a1 < 0 → Q (.inl (some (jI 0))) h) ∧ (¬ (a1 < 0) → hK h a0 = 5 ∧ (j32 (hI h 402 a0) → (((hI h 402 a0) ≤ a1 → Q (.inl (some (jI 0))) h) ∧ (¬ ((hI h 402 a0) ≤ a1) → hK h (hR h 400 a0) = 14 ∧ 0 ≤ a1 ∧ a1 < hN h (hR h 400 a0) ∧ hK h (hQ h (hR h 400 a0) a1) = 3 ∧ jCall d mX4_family [jR (hQ h (hR h 400 a0) a1)] h (fun o h19 => ∃ v19, o = .inl (some (jI v19)) ∧ hK h19 a0 = 5 ∧ jCall d mX6_placeOfFamily [jR a0, jI v19] h19 (fun o h22 => ∃ v22, o = .inl (some (jI v22)) ∧ ((v22 = a1 → Q (.inl (some (jI 0))) h22) ∧ (¬ (v22 = a1) → Q (.inl (some (jI 1))) h22)))))))))) : jCall (d + 1) mX6_isRepeated [jR a0, jI a1] h Q := by
  refine jCall_of plX6 (Nat.le_of_ble_eq_true rfl) ?_
  show jWp (d + 1) mX6_isRepeated 0 [(0, jR a0), (1, jI a1)] [] h Q
  refine jw_ok (fun ok q => ?_)
  replace k := k ok (q _ (.tail _ (.head _)))
  refine wp_iload_n 1 dX6_isRepeated_0 rfl ?_
  refine wp_if_lt 33 dX6_isRepeated_1 rfl (fun q => ?_) (fun q => ?_)
  · replace k := k.1 q
    refine wp_iconst dX6_isRepeated_33 ⟨by decide, by decide⟩ ?_
    exact wp_zreturn dX6_isRepeated_34 rfl (by decide) (by decide) k
  · replace k := k.2 q
    refine wp_iload_n 1 dX6_isRepeated_4 rfl ?_
    refine wp_aload_n 0 dX6_isRepeated_5 rfl ?_
    have c1 := k.1
    replace k := k.2
    refine wp_getI (ci := 4) (j := 2) rfl (by decide) gX6_21 dX6_isRepeated_6 c1 rfl (fun q => ?_)
    have f2 := q
    replace k := k q
    refine wp_icmp_ge 33 dX6_isRepeated_9 rfl (fun q => ?_) (fun q => ?_)
    · replace k := k.1 q
      refine wp_iconst dX6_isRepeated_33 ⟨by decide, by decide⟩ ?_
      exact wp_zreturn dX6_isRepeated_34 rfl (by decide) (by decide) k
    · replace k := k.2 q
      refine wp_aload_n 0 dX6_isRepeated_12 rfl ?_
      refine wp_aload_n 0 dX6_isRepeated_13 rfl ?_
      refine wp_getR (ci := 4) (j := 0) rfl (by decide) gX6_11 dX6_isRepeated_14 c1 rfl ?_
      refine wp_iload_n 1 dX6_isRepeated_17 rfl ?_
      have c3 := k.1
      replace k := k.2
      have c4 := k.1
      replace k := k.2
      have c5 := k.1
      replace k := k.2
      refine wp_aaload (n := 14) dX6_isRepeated_18 c3 (by decide) c4 c5 ?_
      have c6 := k.1
      replace k := k.2
      refine wp_callV (ci := 2) (y' := mX4_family) (st := [jR a0]) [] rfl rfl rfl fX4_family kX6_40 nX4_family dX6_isRepeated_19 (Nat.le_of_ble_eq_true rfl) c6 ?_
      refine jCall.mono k (fun o h19 k => ?_)
      obtain ⟨v19, e, k⟩ := k
      subst e
      show jWp (d + 1) mX6_isRepeated 22 [(0, jR a0), (1, jI a1)] [jI v19, jR a0] h19 Q
      have c7 := k.1
      replace k := k.2
      refine wp_callV (ci := 4) (y' := mX6_placeOfFamily) (st := []) [jI v19] rfl rfl rfl fX6_placeOfFamily kX6_43 nX6_placeOfFamily dX6_isRepeated_22 (Nat.le_of_ble_eq_true rfl) c7 ?_
      refine jCall.mono k (fun o h22 k => ?_)
      obtain ⟨v22, e, k⟩ := k
      subst e
      show jWp (d + 1) mX6_isRepeated 25 [(0, jR a0), (1, jI a1)] [jI v22] h22 Q
      refine wp_iload_n 1 dX6_isRepeated_25 rfl ?_
      refine wp_icmp_eq 33 dX6_isRepeated_26 rfl (fun q => ?_) (fun q => ?_)
      · replace k := k.1 q
        refine wp_iconst dX6_isRepeated_33 ⟨by decide, by decide⟩ ?_
        exact wp_zreturn dX6_isRepeated_34 rfl (by decide) (by decide) k
      · replace k := k.2 q
        refine wp_iconst dX6_isRepeated_29 ⟨by decide, by decide⟩ ?_
        refine wp_goto 34 dX6_isRepeated_30 rfl ?_
        exact wp_zreturn dX6_isRepeated_34 rfl (by decide) (by decide) k
theorem bX6_isWantMet {d : Nat} {h : jH} {Q : jO → jH → Prop} {a0 : Nat} {a1 : Int} (k : jOK h → j32 a1 → ((a1 < 0 → Q (.inl (some (jI 1))) h) ∧ (¬ (a1 < 0) → hK h a0 = 5 ∧ (j32 (hI h 402 a0) → ((a1 < (hI h 402 a0) → jWp (d + 1) mX6_isWantMet 16 [(0, jR a0), (1, jI a1), (2, jI 0)] [] h Q) ∧ (¬ (a1 < (hI h 402 a0)) → Q (.inl (some (jI 1))) h)))))) : jCall (d + 1) mX6_isWantMet [jR a0, jI a1] h Q := by
  refine jCall_of plX6 (Nat.le_of_ble_eq_true rfl) ?_
  show jWp (d + 1) mX6_isWantMet 0 [(0, jR a0), (1, jI a1)] [] h Q
  refine jw_ok (fun ok q => ?_)
  replace k := k ok (q _ (.tail _ (.head _)))
  refine wp_iload_n 1 dX6_isWantMet_0 rfl ?_
  refine wp_if_lt 12 dX6_isWantMet_1 rfl (fun q => ?_) (fun q => ?_)
  · replace k := k.1 q
    refine wp_iconst dX6_isWantMet_12 ⟨by decide, by decide⟩ ?_
    exact wp_zreturn dX6_isWantMet_13 rfl (by decide) (by decide) k
  · replace k := k.2 q
    refine wp_iload_n 1 dX6_isWantMet_4 rfl ?_
    refine wp_aload_n 0 dX6_isWantMet_5 rfl ?_
    have c1 := k.1
    replace k := k.2
    refine wp_getI (ci := 4) (j := 2) rfl (by decide) gX6_21 dX6_isWantMet_6 c1 rfl (fun q => ?_)
    have f2 := q
    replace k := k q
    refine wp_icmp_lt 14 dX6_isWantMet_9 rfl (fun q => ?_) (fun q => ?_)
    · replace k := k.1 q
      refine wp_iconst dX6_isWantMet_14 ⟨by decide, by decide⟩ ?_
      refine wp_istore_n [1, 2, 0] (ls' := [(0, jR a0), (1, jI a1), (2, jI 0)]) dX6_isWantMet_15 (by decide) rfl ?_
      exact k
    · replace k := k.2 q
      refine wp_iconst dX6_isWantMet_12 ⟨by decide, by decide⟩ ?_
      exact wp_zreturn dX6_isWantMet_13 rfl (by decide) (by decide) k
theorem bX6_isWantMet_16 {d : Nat} {h : jH} {Q : jO → jH → Prop} {a0 : Nat} {a1 : Int} {a2 : Int} (k : jOK h → j32 a1 → j32 a2 → jCall d mX8_wants [] h (fun o h17 => ∃ v17, o = .inl (some (jI v17)) ∧ ((v17 ≤ a2 → Q (.inl (some (jI 1))) h17) ∧ (¬ (v17 ≤ a2) → hK h17 a0 = 5 ∧ hK h17 (hR h17 400 a0) = 14 ∧ 0 ≤ a1 ∧ a1 < hN h17 (hR h17 400 a0) ∧ hK h17 (hQ h17 (hR h17 400 a0) a1) = 3 ∧ jCall d mX4_family [jR (hQ h17 (hR h17 400 a0) a1)] h17 (fun o h30 => ∃ v30, o = .inl (some (jI v30)) ∧ jCall d mX8_isWantOf [jI a2, jI v30] h30 (fun o h33 => ∃ v33, o = .inl (some (jI v33)) ∧ ((v33 = 0 → j32 (a2 + 1) ∧ jWp (d + 1) mX6_isWantMet 16 [(0, jR a0), (1, jI a1), (2, jI (a2 + 1))] [] h33 Q) ∧ (¬ (v33 = 0) → hK h33 a0 = 5 ∧ jCall d mX6_hasWanted [jR a0, jI a2] h33 (fun o h41 => ∃ v41, o = .inl (some (jI v41)) ∧ jCall d mX8_wantsOne [jI a2] h41 (fun o h45 => ∃ v45, o = .inl (some (jI v45)) ∧ ((v41 = v45 → j32 (a2 + 1) ∧ jWp (d + 1) mX6_isWantMet 16 [(0, jR a0), (1, jI a1), (2, jI (a2 + 1))] [] h45 Q) ∧ (¬ (v41 = v45) → Q (.inl (some (jI 0))) h45)))))))))))) : jWp (d + 1) mX6_isWantMet 16 [(0, jR a0), (1, jI a1), (2, jI a2)] [] h Q := by
  refine jw_ok (fun ok q => ?_)
  replace k := k ok (q _ (.tail _ (.head _))) (q _ (.tail _ (.tail _ (.head _))))
  refine wp_iload_n 2 dX6_isWantMet_16 rfl ?_
  refine wp_callS (y' := mX8_wants) (st := [jI a2]) [] rfl fX8_wants kX6_47 nX8_wants dX6_isWantMet_17 (Nat.le_of_ble_eq_true rfl) ?_
  refine jCall.mono k (fun o h17 k => ?_)
  obtain ⟨v17, e, k⟩ := k
  subst e
  show jWp (d + 1) mX6_isWantMet 20 [(0, jR a0), (1, jI a1), (2, jI a2)] [jI v17, jI a2] h17 Q
  refine wp_icmp_ge 59 dX6_isWantMet_20 rfl (fun q => ?_) (fun q => ?_)
  · replace k := k.1 q
    refine wp_iconst dX6_isWantMet_59 ⟨by decide, by decide⟩ ?_
    exact wp_zreturn dX6_isWantMet_60 rfl (by decide) (by decide) k
  · replace k := k.2 q
    refine wp_iload_n 2 dX6_isWantMet_23 rfl ?_
    refine wp_aload_n 0 dX6_isWantMet_24 rfl ?_
    have c1 := k.1
    replace k := k.2
    refine wp_getR (ci := 4) (j := 0) rfl (by decide) gX6_11 dX6_isWantMet_25 c1 rfl ?_
    refine wp_iload_n 1 dX6_isWantMet_28 rfl ?_
    have c2 := k.1
    replace k := k.2
    have c3 := k.1
    replace k := k.2
    have c4 := k.1
    replace k := k.2
    refine wp_aaload (n := 14) dX6_isWantMet_29 c2 (by decide) c3 c4 ?_
    have c5 := k.1
    replace k := k.2
    refine wp_callV (ci := 2) (y' := mX4_family) (st := [jI a2]) [] rfl rfl rfl fX4_family kX6_40 nX4_family dX6_isWantMet_30 (Nat.le_of_ble_eq_true rfl) c5 ?_
    refine jCall.mono k (fun o h30 k => ?_)
    obtain ⟨v30, e, k⟩ := k
    subst e
    show jWp (d + 1) mX6_isWantMet 33 [(0, jR a0), (1, jI a1), (2, jI a2)] [jI v30, jI a2] h30 Q
    refine wp_callS (y' := mX8_isWantOf) (st := []) [jI a2, jI v30] rfl fX8_isWantOf kX6_52 nX8_isWantOf dX6_isWantMet_33 (Nat.le_of_ble_eq_true rfl) ?_
    refine jCall.mono k (fun o h33 k => ?_)
    obtain ⟨v33, e, k⟩ := k
    subst e
    show jWp (d + 1) mX6_isWantMet 36 [(0, jR a0), (1, jI a1), (2, jI a2)] [jI v33] h33 Q
    refine wp_if_eq 53 dX6_isWantMet_36 rfl (fun q => ?_) (fun q => ?_)
    · replace k := k.1 q
      have c6 := k.1
      replace k := k.2
      refine wp_iinc 2 [1, 2, 0] (ls' := [(0, jR a0), (1, jI a1), (2, jI (a2 + 1))]) dX6_isWantMet_53 rfl c6 ⟨by decide, by decide⟩ (by decide) rfl ?_
      refine wp_goto 16 dX6_isWantMet_56 rfl ?_
      exact k
    · replace k := k.2 q
      refine wp_aload_n 0 dX6_isWantMet_39 rfl ?_
      refine wp_iload_n 2 dX6_isWantMet_40 rfl ?_
      have c7 := k.1
      replace k := k.2
      refine wp_callV (ci := 4) (y' := mX6_hasWanted) (st := []) [jI a2] rfl rfl rfl fX6_hasWanted kX6_56 nX6_hasWanted dX6_isWantMet_41 (Nat.le_of_ble_eq_true rfl) c7 ?_
      refine jCall.mono k (fun o h41 k => ?_)
      obtain ⟨v41, e, k⟩ := k
      subst e
      show jWp (d + 1) mX6_isWantMet 44 [(0, jR a0), (1, jI a1), (2, jI a2)] [jI v41] h41 Q
      refine wp_iload_n 2 dX6_isWantMet_44 rfl ?_
      refine wp_callS (y' := mX8_wantsOne) (st := [jI v41]) [jI a2] rfl fX8_wantsOne kX6_60 nX8_wantsOne dX6_isWantMet_45 (Nat.le_of_ble_eq_true rfl) ?_
      refine jCall.mono k (fun o h45 k => ?_)
      obtain ⟨v45, e, k⟩ := k
      subst e
      show jWp (d + 1) mX6_isWantMet 48 [(0, jR a0), (1, jI a1), (2, jI a2)] [jI v45, jI v41] h45 Q
      refine wp_icmp_eq 53 dX6_isWantMet_48 rfl (fun q => ?_) (fun q => ?_)
      · replace k := k.1 q
        have c8 := k.1
        replace k := k.2
        refine wp_iinc 2 [1, 2, 0] (ls' := [(0, jR a0), (1, jI a1), (2, jI (a2 + 1))]) dX6_isWantMet_53 rfl c8 ⟨by decide, by decide⟩ (by decide) rfl ?_
        refine wp_goto 16 dX6_isWantMet_56 rfl ?_
        exact k
      · replace k := k.2 q
        refine wp_iconst dX6_isWantMet_51 ⟨by decide, by decide⟩ ?_
        exact wp_zreturn dX6_isWantMet_52 rfl (by decide) (by decide) k
theorem bX6_hasWanted {d : Nat} {h : jH} {Q : jO → jH → Prop} {a0 : Nat} {a1 : Int} (k : jOK h → j32 a1 → jWp (d + 1) mX6_hasWanted 2 [(0, jR a0), (1, jI a1), (2, jI 0)] [] h Q) : jCall (d + 1) mX6_hasWanted [jR a0, jI a1] h Q := by
  refine jCall_of plX6 (Nat.le_of_ble_eq_true rfl) ?_
  show jWp (d + 1) mX6_hasWanted 0 [(0, jR a0), (1, jI a1)] [] h Q
  refine jw_ok (fun ok q => ?_)
  replace k := k ok (q _ (.tail _ (.head _)))
  refine wp_iconst dX6_hasWanted_0 ⟨by decide, by decide⟩ ?_
  refine wp_istore_n [1, 2, 0] (ls' := [(0, jR a0), (1, jI a1), (2, jI 0)]) dX6_hasWanted_1 (by decide) rfl ?_
  exact k
theorem bX6_hasWanted_2 {d : Nat} {h : jH} {Q : jO → jH → Prop} {a0 : Nat} {a1 : Int} {a2 : Int} (k : jOK h → j32 a1 → j32 a2 → ((7 ≤ a2 → Q (.inl (some (jI 0))) h) ∧ (¬ (7 ≤ a2) → jCall d mX8_wanted [jI a1, jI a2] h (fun o h10 => ∃ v10, o = .inl (some (jI v10)) ∧ ((v10 = (-1) → j32 (a2 + 1) ∧ jWp (d + 1) mX6_hasWanted 2 [(0, jR a0), (1, jI a1), (2, jI (a2 + 1))] [] h10 Q) ∧ (¬ (v10 = (-1)) → hK h10 a0 = 5 ∧ jCall d mX6_placeOfFamily [jR a0, jI v10] h10 (fun o h21 => ∃ v21, o = .inl (some (jI v21)) ∧ ((v21 = (-1) → j32 (a2 + 1) ∧ jWp (d + 1) mX6_hasWanted 2 [(0, jR a0), (1, jI a1), (2, jI (a2 + 1))] [] h21 Q) ∧ (¬ (v21 = (-1)) → Q (.inl (some (jI 1))) h21))))))))) : jWp (d + 1) mX6_hasWanted 2 [(0, jR a0), (1, jI a1), (2, jI a2)] [] h Q := by
  refine jw_ok (fun ok q => ?_)
  replace k := k ok (q _ (.tail _ (.head _))) (q _ (.tail _ (.tail _ (.head _))))
  refine wp_iload_n 2 dX6_hasWanted_2 rfl ?_
  refine wp_bipush dX6_hasWanted_3 ⟨by decide, by decide⟩ ?_
  refine wp_icmp_ge 36 dX6_hasWanted_5 rfl (fun q => ?_) (fun q => ?_)
  · replace k := k.1 q
    refine wp_iconst dX6_hasWanted_36 ⟨by decide, by decide⟩ ?_
    exact wp_zreturn dX6_hasWanted_37 rfl (by decide) (by decide) k
  · replace k := k.2 q
    refine wp_iload_n 1 dX6_hasWanted_8 rfl ?_
    refine wp_iload_n 2 dX6_hasWanted_9 rfl ?_
    refine wp_callS (y' := mX8_wanted) (st := []) [jI a1, jI a2] rfl fX8_wanted kX6_63 nX8_wanted dX6_hasWanted_10 (Nat.le_of_ble_eq_true rfl) ?_
    refine jCall.mono k (fun o h10 k => ?_)
    obtain ⟨v10, e, k⟩ := k
    subst e
    show jWp (d + 1) mX6_hasWanted 13 [(0, jR a0), (1, jI a1), (2, jI a2)] [jI v10] h10 Q
    refine wp_istore_n [1, 2, 3, 0] (ls' := [(0, jR a0), (1, jI a1), (2, jI a2), (3, jI v10)]) dX6_hasWanted_13 (by decide) rfl ?_
    refine wp_iload_n 3 dX6_hasWanted_14 rfl ?_
    refine wp_iconst dX6_hasWanted_15 ⟨by decide, by decide⟩ ?_
    refine wp_icmp_eq 30 dX6_hasWanted_16 rfl (fun q => ?_) (fun q => ?_)
    · replace k := k.1 q
      have c1 := k.1
      replace k := k.2
      refine wp_iinc 2 [1, 2, 0] (ls' := [(0, jR a0), (1, jI a1), (2, jI (a2 + 1))]) dX6_hasWanted_30 rfl c1 ⟨by decide, by decide⟩ (by decide) rfl ?_
      refine wp_goto 2 dX6_hasWanted_33 rfl ?_
      exact k
    · replace k := k.2 q
      refine wp_aload_n 0 dX6_hasWanted_19 rfl ?_
      refine wp_iload_n 3 dX6_hasWanted_20 rfl ?_
      have c2 := k.1
      replace k := k.2
      refine wp_callV (ci := 4) (y' := mX6_placeOfFamily) (st := []) [jI v10] rfl rfl rfl fX6_placeOfFamily kX6_43 nX6_placeOfFamily dX6_hasWanted_21 (Nat.le_of_ble_eq_true rfl) c2 ?_
      refine jCall.mono k (fun o h21 k => ?_)
      obtain ⟨v21, e, k⟩ := k
      subst e
      show jWp (d + 1) mX6_hasWanted 24 [(0, jR a0), (1, jI a1), (2, jI a2), (3, jI v10)] [jI v21] h21 Q
      refine wp_iconst dX6_hasWanted_24 ⟨by decide, by decide⟩ ?_
      refine wp_icmp_eq 30 dX6_hasWanted_25 rfl (fun q => ?_) (fun q => ?_)
      · replace k := k.1 q
        have c3 := k.1
        replace k := k.2
        refine wp_iinc 2 [1, 2, 0] (ls' := [(0, jR a0), (1, jI a1), (2, jI (a2 + 1))]) dX6_hasWanted_30 rfl c3 ⟨by decide, by decide⟩ (by decide) rfl ?_
        refine wp_goto 2 dX6_hasWanted_33 rfl ?_
        exact k
      · replace k := k.2 q
        refine wp_iconst dX6_hasWanted_28 ⟨by decide, by decide⟩ ?_
        exact wp_zreturn dX6_hasWanted_29 rfl (by decide) (by decide) k
theorem bX6_goesTogether {d : Nat} {h : jH} {Q : jO → jH → Prop} {a0 : Nat} (k : jOK h → jWp (d + 1) mX6_goesTogether 2 [(0, jR a0), (1, jI 0)] [] h Q) : jCall (d + 1) mX6_goesTogether [jR a0] h Q := by
  refine jCall_of plX6 (Nat.le_of_ble_eq_true rfl) ?_
  show jWp (d + 1) mX6_goesTogether 0 [(0, jR a0)] [] h Q
  refine jw_ok (fun ok q => ?_)
  replace k := k ok 
  refine wp_iconst dX6_goesTogether_0 ⟨by decide, by decide⟩ ?_
  refine wp_istore_n [1, 0] (ls' := [(0, jR a0), (1, jI 0)]) dX6_goesTogether_1 (by decide) rfl ?_
  exact k
theorem bX6_goesTogether_2 {d : Nat} {h : jH} {Q : jO → jH → Prop} {a0 : Nat} {a1 : Int} (k : jOK h → j32 a1 → hK h a0 = 5 ∧ (j32 (hI h 402 a0) → (((hI h 402 a0) ≤ a1 → Q (.inl (some (jI 1))) h) ∧ (¬ ((hI h 402 a0) ≤ a1) → jCall d mX6_isRepeated [jR a0, jI a1] h (fun o h12 => ∃ v12, o = .inl (some (jI v12)) ∧ ((v12 ≠ 0 → Q (.inl (some (jI 0))) h12) ∧ (v12 = 0 → hK h12 a0 = 5 ∧ jCall d mX6_isWantMet [jR a0, jI a1] h12 (fun o h20 => ∃ v20, o = .inl (some (jI v20)) ∧ ((v20 ≠ 0 → j32 (a1 + 1) ∧ jWp (d + 1) mX6_goesTogether 2 [(0, jR a0), (1, jI (a1 + 1))] [] h20 Q) ∧ (v20 = 0 → Q (.inl (some (jI 0))) h20)))))))))) : jWp (d + 1) mX6_goesTogether 2 [(0, jR a0), (1, jI a1)] [] h Q := by
  refine jw_ok (fun ok q => ?_)
  replace k := k ok (q _ (.tail _ (.head _)))
  refine wp_iload_n 1 dX6_goesTogether_2 rfl ?_
  refine wp_aload_n 0 dX6_goesTogether_3 rfl ?_
  have c1 := k.1
  replace k := k.2
  refine wp_getI (ci := 4) (j := 2) rfl (by decide) gX6_21 dX6_goesTogether_4 c1 rfl (fun q => ?_)
  have f2 := q
  replace k := k q
  refine wp_icmp_ge 34 dX6_goesTogether_7 rfl (fun q => ?_) (fun q => ?_)
  · replace k := k.1 q
    refine wp_iconst dX6_goesTogether_34 ⟨by decide, by decide⟩ ?_
    exact wp_zreturn dX6_goesTogether_35 rfl (by decide) (by decide) k
  · replace k := k.2 q
    refine wp_aload_n 0 dX6_goesTogether_10 rfl ?_
    refine wp_iload_n 1 dX6_goesTogether_11 rfl ?_
    refine wp_callV (ci := 4) (y' := mX6_isRepeated) (st := []) [jI a1] rfl rfl rfl fX6_isRepeated kX6_67 nX6_isRepeated dX6_goesTogether_12 (Nat.le_of_ble_eq_true rfl) c1 ?_
    refine jCall.mono k (fun o h12 k => ?_)
    obtain ⟨v12, e, k⟩ := k
    subst e
    show jWp (d + 1) mX6_goesTogether 15 [(0, jR a0), (1, jI a1)] [jI v12] h12 Q
    refine wp_if_ne 26 dX6_goesTogether_15 rfl (fun q => ?_) (fun q => ?_)
    · replace k := k.1 q
      refine wp_iconst dX6_goesTogether_26 ⟨by decide, by decide⟩ ?_
      exact wp_zreturn dX6_goesTogether_27 rfl (by decide) (by decide) k
    · replace k := k.2 q
      refine wp_aload_n 0 dX6_goesTogether_18 rfl ?_
      refine wp_iload_n 1 dX6_goesTogether_19 rfl ?_
      have c3 := k.1
      replace k := k.2
      refine wp_callV (ci := 4) (y' := mX6_isWantMet) (st := []) [jI a1] rfl rfl rfl fX6_isWantMet kX6_70 nX6_isWantMet dX6_goesTogether_20 (Nat.le_of_ble_eq_true rfl) c3 ?_
      refine jCall.mono k (fun o h20 k => ?_)
      obtain ⟨v20, e, k⟩ := k
      subst e
      show jWp (d + 1) mX6_goesTogether 23 [(0, jR a0), (1, jI a1)] [jI v20] h20 Q
      refine wp_if_ne 28 dX6_goesTogether_23 rfl (fun q => ?_) (fun q => ?_)
      · replace k := k.1 q
        have c4 := k.1
        replace k := k.2
        refine wp_iinc 1 [1, 0] (ls' := [(0, jR a0), (1, jI (a1 + 1))]) dX6_goesTogether_28 rfl c4 ⟨by decide, by decide⟩ (by decide) rfl ?_
        refine wp_goto 2 dX6_goesTogether_31 rfl ?_
        exact k
      · replace k := k.2 q
        refine wp_iconst dX6_goesTogether_26 ⟨by decide, by decide⟩ ?_
        exact wp_zreturn dX6_goesTogether_27 rfl (by decide) (by decide) k
theorem bX6_fixedAhead {d : Nat} {h : jH} {Q : jO → jH → Prop} {a0 : Nat} (k : jOK h → jWp (d + 1) mX6_fixedAhead 6 [(0, jR a0), (1, jI 0), (2, jI 0), (3, jI 0)] [] h Q) : jCall (d + 1) mX6_fixedAhead [jR a0] h Q := by
  refine jCall_of plX6 (Nat.le_of_ble_eq_true rfl) ?_
  show jWp (d + 1) mX6_fixedAhead 0 [(0, jR a0)] [] h Q
  refine jw_ok (fun ok q => ?_)
  replace k := k ok 
  refine wp_iconst dX6_fixedAhead_0 ⟨by decide, by decide⟩ ?_
  refine wp_istore_n [1, 0] (ls' := [(0, jR a0), (1, jI 0)]) dX6_fixedAhead_1 (by decide) rfl ?_
  refine wp_iconst dX6_fixedAhead_2 ⟨by decide, by decide⟩ ?_
  refine wp_istore_n [1, 2, 0] (ls' := [(0, jR a0), (1, jI 0), (2, jI 0)]) dX6_fixedAhead_3 (by decide) rfl ?_
  refine wp_iconst dX6_fixedAhead_4 ⟨by decide, by decide⟩ ?_
  refine wp_istore_n [1, 2, 3, 0] (ls' := [(0, jR a0), (1, jI 0), (2, jI 0), (3, jI 0)]) dX6_fixedAhead_5 (by decide) rfl ?_
  exact k
theorem bX6_fixedAhead_6 {d : Nat} {h : jH} {Q : jO → jH → Prop} {a0 : Nat} {a1 : Int} {a2 : Int} {a3 : Int} (k : jOK h → j32 a1 → j32 a2 → j32 a3 → ((2 ≤ a3 → jWp (d + 1) mX6_fixedAhead 89 [(0, jR a0), (2, jI a2), (3, jI 0)] [] h Q) ∧ (¬ (2 ≤ a3) → jWp (d + 1) mX6_fixedAhead 14 [(0, jR a0), (1, jI a1), (2, jI a2), (3, jI a3), (4, jI 0)] [] h Q))) : jWp (d + 1) mX6_fixedAhead 6 [(0, jR a0), (1, jI a1), (2, jI a2), (3, jI a3)] [] h Q := by
  refine jw_ok (fun ok q => ?_)
  replace k := k ok (q _ (.tail _ (.head _))) (q _ (.tail _ (.tail _ (.head _)))) (q _ (.tail _ (.tail _ (.tail _ (.head _)))))
  refine wp_iload_n 3 dX6_fixedAhead_6 rfl ?_
  refine wp_iconst dX6_fixedAhead_7 ⟨by decide, by decide⟩ ?_
  refine wp_icmp_ge 87 dX6_fixedAhead_8 rfl (fun q => ?_) (fun q => ?_)
  · replace k := k.1 q
    refine wp_iconst dX6_fixedAhead_87 ⟨by decide, by decide⟩ ?_
    refine wp_istore_n [1, 3, 0] (ls' := [(0, jR a0), (2, jI a2), (3, jI 0)]) dX6_fixedAhead_88 (by decide) rfl ?_
    exact k
  · replace k := k.2 q
    refine wp_iconst dX6_fixedAhead_11 ⟨by decide, by decide⟩ ?_
    refine wp_istore [1, 2, 3, 4, 0] (ls' := [(0, jR a0), (1, jI a1), (2, jI a2), (3, jI a3), (4, jI 0)]) dX6_fixedAhead_12 (by decide) rfl ?_
    exact k
theorem bX6_fixedAhead_89 {d : Nat} {h : jH} {Q : jO → jH → Prop} {a0 : Nat} {a2 : Int} {a3 : Int} (k : jOK h → j32 a2 → j32 a3 → hK h a0 = 5 ∧ (j32 (hI h 402 a0) → (((hI h 402 a0) ≤ a3 → Q (.inl (some (jI a2))) h) ∧ (¬ ((hI h 402 a0) ≤ a3) → hK h (hR h 401 a0) = 14 ∧ 0 ≤ a3 ∧ a3 < hN h (hR h 401 a0) ∧ hK h (hR h 400 a0) = 14 ∧ a3 < hN h (hR h 400 a0) ∧ hK h (hQ h (hR h 401 a0) a3) = 3 ∧ j32 (a3 + 1) ∧ jWp (d + 1) mX6_fixedAhead 89 [(0, jR a0), (2, jI a2), (3, jI (a3 + 1))] [] (sQ h (hR h 400 a0) a3 (hQ h (hR h 401 a0) a3)) Q)))) : jWp (d + 1) mX6_fixedAhead 89 [(0, jR a0), (2, jI a2), (3, jI a3)] [] h Q := by
  refine jw_ok (fun ok q => ?_)
  replace k := k ok (q _ (.tail _ (.head _))) (q _ (.tail _ (.tail _ (.head _))))
  refine wp_iload_n 2 dX6_fixedAhead_89 rfl ?_
  refine wp_aload_n 0 dX6_fixedAhead_90 rfl ?_
  have c1 := k.1
  replace k := k.2
  refine wp_getI (ci := 4) (j := 2) rfl (by decide) gX6_21 dX6_fixedAhead_91 c1 rfl (fun q => ?_)
  have f2 := q
  replace k := k q
  refine wp_icmp_ge 115 dX6_fixedAhead_94 rfl (fun q => ?_) (fun q => ?_)
  · replace k := k.1 q
    refine wp_iload_n 1 dX6_fixedAhead_115 rfl ?_
    exact wp_iret dX6_fixedAhead_116 rfl k
  · replace k := k.2 q
    refine wp_aload_n 0 dX6_fixedAhead_97 rfl ?_
    refine wp_getR (ci := 4) (j := 0) rfl (by decide) gX6_11 dX6_fixedAhead_98 c1 rfl ?_
    refine wp_iload_n 2 dX6_fixedAhead_101 rfl ?_
    refine wp_aload_n 0 dX6_fixedAhead_102 rfl ?_
    refine wp_getR (ci := 4) (j := 1) rfl (by decide) gX6_17 dX6_fixedAhead_103 c1 rfl ?_
    refine wp_iload_n 2 dX6_fixedAhead_106 rfl ?_
    have c3 := k.1
    replace k := k.2
    have c4 := k.1
    replace k := k.2
    have c5 := k.1
    replace k := k.2
    refine wp_aaload (n := 14) dX6_fixedAhead_107 c3 (by decide) c4 c5 ?_
    have c6 := k.1
    replace k := k.2
    have c7 := k.1
    replace k := k.2
    have c8 := k.1
    replace k := k.2
    refine wp_aastore (n := 14) dX6_fixedAhead_108 c6 (Or.inl ⟨rfl, c8⟩) c4 c7 ?_
    have c9 := k.1
    replace k := k.2
    refine wp_iinc 2 [1, 2, 0] (ls' := [(0, jR a0), (2, jI a2), (3, jI (a3 + 1))]) dX6_fixedAhead_109 rfl c9 ⟨by decide, by decide⟩ (by decide) rfl ?_
    refine wp_goto 89 dX6_fixedAhead_112 rfl ?_
    exact k
theorem bX6_fixedAhead_14 {d : Nat} {h : jH} {Q : jO → jH → Prop} {a0 : Nat} {a1 : Int} {a2 : Int} {a3 : Int} {a4 : Int} (k : jOK h → j32 a1 → j32 a2 → j32 a3 → j32 a4 → hK h a0 = 5 ∧ (j32 (hI h 402 a0) → (((hI h 402 a0) ≤ a4 → j32 (a3 + 1) ∧ jWp (d + 1) mX6_fixedAhead 6 [(0, jR a0), (1, jI a1), (2, jI a2), (3, jI (a3 + 1))] [] h Q) ∧ (¬ ((hI h 402 a0) ≤ a4) → hK h (hR h 400 a0) = 14 ∧ 0 ≤ a4 ∧ a4 < hN h (hR h 400 a0) ∧ hK h (hQ h (hR h 400 a0) a4) = 3 ∧ jCall d mX4_isFixed [jR (hQ h (hR h 400 a0) a4)] h (fun o h30 => ∃ v30, o = .inl (some (jI v30)) ∧ ((a3 ≠ 0 → ((v30 ≠ 0 → j32 (a4 + 1) ∧ jWp (d + 1) mX6_fixedAhead 14 [(0, jR a0), (1, jI a1), (2, jI a2), (3, jI a3), (4, jI (a4 + 1))] [] h30 Q) ∧ (v30 = 0 → ((a1 ≠ a4 → j32 (a2 + 1) ∧ hK h30 a0 = 5 ∧ hK h30 (hR h30 400 a0) = 14 ∧ 0 ≤ a4 ∧ a4 < hN h30 (hR h30 400 a0) ∧ hK h30 (hR h30 401 a0) = 14 ∧ 0 ≤ a1 ∧ a1 < hN h30 (hR h30 401 a0) ∧ hK h30 (hQ h30 (hR h30 400 a0) a4) = 3 ∧ j32 (a1 + 1) ∧ j32 (a4 + 1) ∧ jWp (d + 1) mX6_fixedAhead 14 [(0, jR a0), (1, jI (a1 + 1)), (2, jI (a2 + 1)), (3, jI a3), (4, jI (a4 + 1))] [] (sQ h30 (hR h30 401 a0) a1 (hQ h30 (hR h30 400 a0) a4)) Q) ∧ (a1 = a4 → j32 (a2 + 0) ∧ hK h30 a0 = 5 ∧ hK h30 (hR h30 400 a0) = 14 ∧ 0 ≤ a4 ∧ a4 < hN h30 (hR h30 400 a0) ∧ hK h30 (hR h30 401 a0) = 14 ∧ 0 ≤ a1 ∧ a1 < hN h30 (hR h30 401 a0) ∧ hK h30 (hQ h30 (hR h30 400 a0) a4) = 3 ∧ j32 (a1 + 1) ∧ j32 (a4 + 1) ∧ jWp (d + 1) mX6_fixedAhead 14 [(0, jR a0), (1, jI (a1 + 1)), (2, jI (a2 + 0)), (3, jI a3), (4, jI (a4 + 1))] [] (sQ h30 (hR h30 401 a0) a1 (hQ h30 (hR h30 400 a0) a4)) Q))))) ∧ (a3 = 0 → ((v30 ≠ 1 → j32 (a4 + 1) ∧ jWp (d + 1) mX6_fixedAhead 14 [(0, jR a0), (1, jI a1), (2, jI a2), (3, jI a3), (4, jI (a4 + 1))] [] h30 Q) ∧ (v30 = 1 → ((a1 ≠ a4 → j32 (a2 + 1) ∧ hK h30 a0 = 5 ∧ hK h30 (hR h30 400 a0) = 14 ∧ 0 ≤ a4 ∧ a4 < hN h30 (hR h30 400 a0) ∧ hK h30 (hR h30 401 a0) = 14 ∧ 0 ≤ a1 ∧ a1 < hN h30 (hR h30 401 a0) ∧ hK h30 (hQ h30 (hR h30 400 a0) a4) = 3 ∧ j32 (a1 + 1) ∧ j32 (a4 + 1) ∧ jWp (d + 1) mX6_fixedAhead 14 [(0, jR a0), (1, jI (a1 + 1)), (2, jI (a2 + 1)), (3, jI a3), (4, jI (a4 + 1))] [] (sQ h30 (hR h30 401 a0) a1 (hQ h30 (hR h30 400 a0) a4)) Q) ∧ (a1 = a4 → j32 (a2 + 0) ∧ hK h30 a0 = 5 ∧ hK h30 (hR h30 400 a0) = 14 ∧ 0 ≤ a4 ∧ a4 < hN h30 (hR h30 400 a0) ∧ hK h30 (hR h30 401 a0) = 14 ∧ 0 ≤ a1 ∧ a1 < hN h30 (hR h30 401 a0) ∧ hK h30 (hQ h30 (hR h30 400 a0) a4) = 3 ∧ j32 (a1 + 1) ∧ j32 (a4 + 1) ∧ jWp (d + 1) mX6_fixedAhead 14 [(0, jR a0), (1, jI (a1 + 1)), (2, jI (a2 + 0)), (3, jI a3), (4, jI (a4 + 1))] [] (sQ h30 (hR h30 401 a0) a1 (hQ h30 (hR h30 400 a0) a4)) Q))))))))))) : jWp (d + 1) mX6_fixedAhead 14 [(0, jR a0), (1, jI a1), (2, jI a2), (3, jI a3), (4, jI a4)] [] h Q := by
  refine jw_ok (fun ok q => ?_)
  replace k := k ok (q _ (.tail _ (.head _))) (q _ (.tail _ (.tail _ (.head _)))) (q _ (.tail _ (.tail _ (.tail _ (.head _))))) (q _ (.tail _ (.tail _ (.tail _ (.tail _ (.head _))))))
  refine wp_iload 4 dX6_fixedAhead_14 rfl ?_
  refine wp_aload_n 0 dX6_fixedAhead_16 rfl ?_
  have c1 := k.1
  replace k := k.2
  refine wp_getI (ci := 4) (j := 2) rfl (by decide) gX6_21 dX6_fixedAhead_17 c1 rfl (fun q => ?_)
  have f2 := q
  replace k := k q
  refine wp_icmp_ge 81 dX6_fixedAhead_20 rfl (fun q => ?_) (fun q => ?_)
  · replace k := k.1 q
    have c3 := k.1
    replace k := k.2
    refine wp_iinc 3 [1, 2, 3, 0] (ls' := [(0, jR a0), (1, jI a1), (2, jI a2), (3, jI (a3 + 1))]) dX6_fixedAhead_81 rfl c3 ⟨by decide, by decide⟩ (by decide) rfl ?_
    refine wp_goto 6 dX6_fixedAhead_84 rfl ?_
    exact k
  · replace k := k.2 q
    refine wp_aload_n 0 dX6_fixedAhead_23 rfl ?_
    refine wp_getR (ci := 4) (j := 0) rfl (by decide) gX6_11 dX6_fixedAhead_24 c1 rfl ?_
    refine wp_iload 4 dX6_fixedAhead_27 rfl ?_
    have c4 := k.1
    replace k := k.2
    have c5 := k.1
    replace k := k.2
    have c6 := k.1
    replace k := k.2
    refine wp_aaload (n := 14) dX6_fixedAhead_29 c4 (by decide) c5 c6 ?_
    have c7 := k.1
    replace k := k.2
    refine wp_callV (ci := 2) (y' := mX4_isFixed) (st := []) [] rfl rfl rfl fX4_isFixed kX6_73 nX4_isFixed dX6_fixedAhead_30 (Nat.le_of_ble_eq_true rfl) c7 ?_
    refine jCall.mono k (fun o h30 k => ?_)
    obtain ⟨v30, e, k⟩ := k
    subst e
    show jWp (d + 1) mX6_fixedAhead 33 [(0, jR a0), (1, jI a1), (2, jI a2), (3, jI a3), (4, jI a4)] [jI v30] h30 Q
    refine wp_iload_n 3 dX6_fixedAhead_33 rfl ?_
    refine wp_if_ne 41 dX6_fixedAhead_34 rfl (fun q => ?_) (fun q => ?_)
    · replace k := k.1 q
      refine wp_iconst dX6_fixedAhead_41 ⟨by decide, by decide⟩ ?_
      refine wp_icmp_ne 75 dX6_fixedAhead_42 rfl (fun q => ?_) (fun q => ?_)
      · replace k := k.1 q
        have c8 := k.1
        replace k := k.2
        refine wp_iinc 4 [1, 2, 3, 4, 0] (ls' := [(0, jR a0), (1, jI a1), (2, jI a2), (3, jI a3), (4, jI (a4 + 1))]) dX6_fixedAhead_75 rfl c8 ⟨by decide, by decide⟩ (by decide) rfl ?_
        refine wp_goto 14 dX6_fixedAhead_78 rfl ?_
        exact k
      · replace k := k.2 q
        refine wp_iload_n 2 dX6_fixedAhead_45 rfl ?_
        refine wp_iload_n 1 dX6_fixedAhead_46 rfl ?_
        refine wp_iload 4 dX6_fixedAhead_47 rfl ?_
        refine wp_icmp_ne 56 dX6_fixedAhead_49 rfl (fun q => ?_) (fun q => ?_)
        · replace k := k.1 q
          refine wp_iconst dX6_fixedAhead_56 ⟨by decide, by decide⟩ ?_
          have c9 := k.1
          replace k := k.2
          refine wp_iadd dX6_fixedAhead_57 c9 ?_
          refine wp_istore_n [1, 2, 0, 3, 4] (ls' := [(0, jR a0), (1, jI a1), (2, jI (a2 + 1)), (3, jI a3), (4, jI a4)]) dX6_fixedAhead_58 (by decide) rfl ?_
          refine wp_aload_n 0 dX6_fixedAhead_59 rfl ?_
          have c10 := k.1
          replace k := k.2
          refine wp_getR (ci := 4) (j := 1) rfl (by decide) gX6_17 dX6_fixedAhead_60 c10 rfl ?_
          refine wp_iload_n 1 dX6_fixedAhead_63 rfl ?_
          refine wp_aload_n 0 dX6_fixedAhead_64 rfl ?_
          refine wp_getR (ci := 4) (j := 0) rfl (by decide) gX6_11 dX6_fixedAhead_65 c10 rfl ?_
          refine wp_iload 4 dX6_fixedAhead_68 rfl ?_
          have c11 := k.1
          replace k := k.2
          have c12 := k.1
          replace k := k.2
          have c13 := k.1
          replace k := k.2
          refine wp_aaload (n := 14) dX6_fixedAhead_70 c11 (by decide) c12 c13 ?_
          have c14 := k.1
          replace k := k.2
          have c15 := k.1
          replace k := k.2
          have c16 := k.1
          replace k := k.2
          have c17 := k.1
          replace k := k.2
          refine wp_aastore (n := 14) dX6_fixedAhead_71 c14 (Or.inl ⟨rfl, c17⟩) c15 c16 ?_
          have c18 := k.1
          replace k := k.2
          refine wp_iinc 1 [1, 0, 2, 3, 4] (ls' := [(0, jR a0), (1, jI (a1 + 1)), (2, jI (a2 + 1)), (3, jI a3), (4, jI a4)]) dX6_fixedAhead_72 rfl c18 ⟨by decide, by decide⟩ (by decide) rfl ?_
          have c19 := k.1
          replace k := k.2
          refine wp_iinc 4 [1, 2, 3, 4, 0] (ls' := [(0, jR a0), (1, jI (a1 + 1)), (2, jI (a2 + 1)), (3, jI a3), (4, jI (a4 + 1))]) dX6_fixedAhead_75 rfl c19 ⟨by decide, by decide⟩ (by decide) rfl ?_
          refine wp_goto 14 dX6_fixedAhead_78 rfl ?_
          exact k
        · replace k := k.2 q
          refine wp_iconst dX6_fixedAhead_52 ⟨by decide, by decide⟩ ?_
          refine wp_goto 57 dX6_fixedAhead_53 rfl ?_
          have c20 := k.1
          replace k := k.2
          refine wp_iadd dX6_fixedAhead_57 c20 ?_
          refine wp_istore_n [1, 2, 0, 3, 4] (ls' := [(0, jR a0), (1, jI a1), (2, jI (a2 + 0)), (3, jI a3), (4, jI a4)]) dX6_fixedAhead_58 (by decide) rfl ?_
          refine wp_aload_n 0 dX6_fixedAhead_59 rfl ?_
          have c21 := k.1
          replace k := k.2
          refine wp_getR (ci := 4) (j := 1) rfl (by decide) gX6_17 dX6_fixedAhead_60 c21 rfl ?_
          refine wp_iload_n 1 dX6_fixedAhead_63 rfl ?_
          refine wp_aload_n 0 dX6_fixedAhead_64 rfl ?_
          refine wp_getR (ci := 4) (j := 0) rfl (by decide) gX6_11 dX6_fixedAhead_65 c21 rfl ?_
          refine wp_iload 4 dX6_fixedAhead_68 rfl ?_
          have c22 := k.1
          replace k := k.2
          have c23 := k.1
          replace k := k.2
          have c24 := k.1
          replace k := k.2
          refine wp_aaload (n := 14) dX6_fixedAhead_70 c22 (by decide) c23 c24 ?_
          have c25 := k.1
          replace k := k.2
          have c26 := k.1
          replace k := k.2
          have c27 := k.1
          replace k := k.2
          have c28 := k.1
          replace k := k.2
          refine wp_aastore (n := 14) dX6_fixedAhead_71 c25 (Or.inl ⟨rfl, c28⟩) c26 c27 ?_
          have c29 := k.1
          replace k := k.2
          refine wp_iinc 1 [1, 0, 2, 3, 4] (ls' := [(0, jR a0), (1, jI (a1 + 1)), (2, jI (a2 + 0)), (3, jI a3), (4, jI a4)]) dX6_fixedAhead_72 rfl c29 ⟨by decide, by decide⟩ (by decide) rfl ?_
          have c30 := k.1
          replace k := k.2
          refine wp_iinc 4 [1, 2, 3, 4, 0] (ls' := [(0, jR a0), (1, jI (a1 + 1)), (2, jI (a2 + 0)), (3, jI a3), (4, jI (a4 + 1))]) dX6_fixedAhead_75 rfl c30 ⟨by decide, by decide⟩ (by decide) rfl ?_
          refine wp_goto 14 dX6_fixedAhead_78 rfl ?_
          exact k
    · replace k := k.2 q
      refine wp_iconst dX6_fixedAhead_37 ⟨by decide, by decide⟩ ?_
      refine wp_goto 42 dX6_fixedAhead_38 rfl ?_
      refine wp_icmp_ne 75 dX6_fixedAhead_42 rfl (fun q => ?_) (fun q => ?_)
      · replace k := k.1 q
        have c31 := k.1
        replace k := k.2
        refine wp_iinc 4 [1, 2, 3, 4, 0] (ls' := [(0, jR a0), (1, jI a1), (2, jI a2), (3, jI a3), (4, jI (a4 + 1))]) dX6_fixedAhead_75 rfl c31 ⟨by decide, by decide⟩ (by decide) rfl ?_
        refine wp_goto 14 dX6_fixedAhead_78 rfl ?_
        exact k
      · replace k := k.2 q
        refine wp_iload_n 2 dX6_fixedAhead_45 rfl ?_
        refine wp_iload_n 1 dX6_fixedAhead_46 rfl ?_
        refine wp_iload 4 dX6_fixedAhead_47 rfl ?_
        refine wp_icmp_ne 56 dX6_fixedAhead_49 rfl (fun q => ?_) (fun q => ?_)
        · replace k := k.1 q
          refine wp_iconst dX6_fixedAhead_56 ⟨by decide, by decide⟩ ?_
          have c32 := k.1
          replace k := k.2
          refine wp_iadd dX6_fixedAhead_57 c32 ?_
          refine wp_istore_n [1, 2, 0, 3, 4] (ls' := [(0, jR a0), (1, jI a1), (2, jI (a2 + 1)), (3, jI a3), (4, jI a4)]) dX6_fixedAhead_58 (by decide) rfl ?_
          refine wp_aload_n 0 dX6_fixedAhead_59 rfl ?_
          have c33 := k.1
          replace k := k.2
          refine wp_getR (ci := 4) (j := 1) rfl (by decide) gX6_17 dX6_fixedAhead_60 c33 rfl ?_
          refine wp_iload_n 1 dX6_fixedAhead_63 rfl ?_
          refine wp_aload_n 0 dX6_fixedAhead_64 rfl ?_
          refine wp_getR (ci := 4) (j := 0) rfl (by decide) gX6_11 dX6_fixedAhead_65 c33 rfl ?_
          refine wp_iload 4 dX6_fixedAhead_68 rfl ?_
          have c34 := k.1
          replace k := k.2
          have c35 := k.1
          replace k := k.2
          have c36 := k.1
          replace k := k.2
          refine wp_aaload (n := 14) dX6_fixedAhead_70 c34 (by decide) c35 c36 ?_
          have c37 := k.1
          replace k := k.2
          have c38 := k.1
          replace k := k.2
          have c39 := k.1
          replace k := k.2
          have c40 := k.1
          replace k := k.2
          refine wp_aastore (n := 14) dX6_fixedAhead_71 c37 (Or.inl ⟨rfl, c40⟩) c38 c39 ?_
          have c41 := k.1
          replace k := k.2
          refine wp_iinc 1 [1, 0, 2, 3, 4] (ls' := [(0, jR a0), (1, jI (a1 + 1)), (2, jI (a2 + 1)), (3, jI a3), (4, jI a4)]) dX6_fixedAhead_72 rfl c41 ⟨by decide, by decide⟩ (by decide) rfl ?_
          have c42 := k.1
          replace k := k.2
          refine wp_iinc 4 [1, 2, 3, 4, 0] (ls' := [(0, jR a0), (1, jI (a1 + 1)), (2, jI (a2 + 1)), (3, jI a3), (4, jI (a4 + 1))]) dX6_fixedAhead_75 rfl c42 ⟨by decide, by decide⟩ (by decide) rfl ?_
          refine wp_goto 14 dX6_fixedAhead_78 rfl ?_
          exact k
        · replace k := k.2 q
          refine wp_iconst dX6_fixedAhead_52 ⟨by decide, by decide⟩ ?_
          refine wp_goto 57 dX6_fixedAhead_53 rfl ?_
          have c43 := k.1
          replace k := k.2
          refine wp_iadd dX6_fixedAhead_57 c43 ?_
          refine wp_istore_n [1, 2, 0, 3, 4] (ls' := [(0, jR a0), (1, jI a1), (2, jI (a2 + 0)), (3, jI a3), (4, jI a4)]) dX6_fixedAhead_58 (by decide) rfl ?_
          refine wp_aload_n 0 dX6_fixedAhead_59 rfl ?_
          have c44 := k.1
          replace k := k.2
          refine wp_getR (ci := 4) (j := 1) rfl (by decide) gX6_17 dX6_fixedAhead_60 c44 rfl ?_
          refine wp_iload_n 1 dX6_fixedAhead_63 rfl ?_
          refine wp_aload_n 0 dX6_fixedAhead_64 rfl ?_
          refine wp_getR (ci := 4) (j := 0) rfl (by decide) gX6_11 dX6_fixedAhead_65 c44 rfl ?_
          refine wp_iload 4 dX6_fixedAhead_68 rfl ?_
          have c45 := k.1
          replace k := k.2
          have c46 := k.1
          replace k := k.2
          have c47 := k.1
          replace k := k.2
          refine wp_aaload (n := 14) dX6_fixedAhead_70 c45 (by decide) c46 c47 ?_
          have c48 := k.1
          replace k := k.2
          have c49 := k.1
          replace k := k.2
          have c50 := k.1
          replace k := k.2
          have c51 := k.1
          replace k := k.2
          refine wp_aastore (n := 14) dX6_fixedAhead_71 c48 (Or.inl ⟨rfl, c51⟩) c49 c50 ?_
          have c52 := k.1
          replace k := k.2
          refine wp_iinc 1 [1, 0, 2, 3, 4] (ls' := [(0, jR a0), (1, jI (a1 + 1)), (2, jI (a2 + 0)), (3, jI a3), (4, jI a4)]) dX6_fixedAhead_72 rfl c52 ⟨by decide, by decide⟩ (by decide) rfl ?_
          have c53 := k.1
          replace k := k.2
          refine wp_iinc 4 [1, 2, 3, 4, 0] (ls' := [(0, jR a0), (1, jI (a1 + 1)), (2, jI (a2 + 0)), (3, jI a3), (4, jI (a4 + 1))]) dX6_fixedAhead_75 rfl c53 ⟨by decide, by decide⟩ (by decide) rfl ?_
          refine wp_goto 14 dX6_fixedAhead_78 rfl ?_
          exact k
theorem bX6_bytesOf {d : Nat} {h : jH} {Q : jO → jH → Prop} {a0 : Nat} {a1 : Int} {a2 : Int} (k : jOK h → j32 a1 → j32 a2 → ((a1 ≤ a2 → hK h a0 = 5 ∧ hK h (hR h 400 a0) = 14 ∧ 0 ≤ a1 ∧ a1 < hN h (hR h 400 a0) ∧ hK h (hQ h (hR h 400 a0) a1) = 3 ∧ jCall d mX4_digits [jR (hQ h (hR h 400 a0) a1)] h (fun o h32 => ∃ v32, o = .inl (some (jI v32)) ∧ j32 (0 + v32) ∧ hK h32 a0 = 5 ∧ hK h32 (hR h32 400 a0) = 14 ∧ 0 ≤ a1 ∧ a1 < hN h32 (hR h32 400 a0) ∧ hK h32 (hQ h32 (hR h32 400 a0) a1) = 3 ∧ jCall d mX4_value [jR (hQ h32 (hR h32 400 a0) a1)] h32 (fun o h42 => ∃ v42, o = .inl (some (jR v42)) ∧ hK h42 v42 = 6 ∧ jCall d mX7_count [jR v42] h42 (fun o h45 => ∃ v45, o = .inl (some (jI v45)) ∧ j32 ((0 + v32) + v45) ∧ Q (.inl (some (jI ((0 + v32) + v45)))) h45)))) ∧ (¬ (a1 ≤ a2) → hK h a0 = 5 ∧ j32 (a1 - 1) ∧ hK h (hR h 400 a0) = 14 ∧ 0 ≤ (a1 - 1) ∧ (a1 - 1) < hN h (hR h 400 a0) ∧ hK h (hQ h (hR h 400 a0) (a1 - 1)) = 3 ∧ jCall d mX4_isFixed [jR (hQ h (hR h 400 a0) (a1 - 1))] h (fun o h13 => ∃ v13, o = .inl (some (jI v13)) ∧ ((v13 ≠ 0 → hK h13 a0 = 5 ∧ hK h13 (hR h13 400 a0) = 14 ∧ 0 ≤ a1 ∧ a1 < hN h13 (hR h13 400 a0) ∧ hK h13 (hQ h13 (hR h13 400 a0) a1) = 3 ∧ jCall d mX4_digits [jR (hQ h13 (hR h13 400 a0) a1)] h13 (fun o h32_1 => ∃ v32_1, o = .inl (some (jI v32_1)) ∧ j32 (0 + v32_1) ∧ hK h32_1 a0 = 5 ∧ hK h32_1 (hR h32_1 400 a0) = 14 ∧ 0 ≤ a1 ∧ a1 < hN h32_1 (hR h32_1 400 a0) ∧ hK h32_1 (hQ h32_1 (hR h32_1 400 a0) a1) = 3 ∧ jCall d mX4_value [jR (hQ h32_1 (hR h32_1 400 a0) a1)] h32_1 (fun o h42_1 => ∃ v42_1, o = .inl (some (jR v42_1)) ∧ hK h42_1 v42_1 = 6 ∧ jCall d mX7_count [jR v42_1] h42_1 (fun o h45_1 => ∃ v45_1, o = .inl (some (jI v45_1)) ∧ j32 ((0 + v32_1) + v45_1) ∧ Q (.inl (some (jI ((0 + v32_1) + v45_1)))) h45_1)))) ∧ (v13 = 0 → hK h13 a0 = 5 ∧ hK h13 (hR h13 400 a0) = 14 ∧ 0 ≤ a1 ∧ a1 < hN h13 (hR h13 400 a0) ∧ hK h13 (hQ h13 (hR h13 400 a0) a1) = 3 ∧ jCall d mX4_digits [jR (hQ h13 (hR h13 400 a0) a1)] h13 (fun o h32_2 => ∃ v32_2, o = .inl (some (jI v32_2)) ∧ j32 (1 + v32_2) ∧ hK h32_2 a0 = 5 ∧ hK h32_2 (hR h32_2 400 a0) = 14 ∧ 0 ≤ a1 ∧ a1 < hN h32_2 (hR h32_2 400 a0) ∧ hK h32_2 (hQ h32_2 (hR h32_2 400 a0) a1) = 3 ∧ jCall d mX4_value [jR (hQ h32_2 (hR h32_2 400 a0) a1)] h32_2 (fun o h42_2 => ∃ v42_2, o = .inl (some (jR v42_2)) ∧ hK h42_2 v42_2 = 6 ∧ jCall d mX7_count [jR v42_2] h42_2 (fun o h45_2 => ∃ v45_2, o = .inl (some (jI v45_2)) ∧ j32 ((1 + v32_2) + v45_2) ∧ Q (.inl (some (jI ((1 + v32_2) + v45_2)))) h45_2))))))))) : jCall (d + 1) mX6_bytesOf [jR a0, jI a1, jI a2] h Q := by
  refine jCall_of plX6 (Nat.le_of_ble_eq_true rfl) ?_
  show jWp (d + 1) mX6_bytesOf 0 [(0, jR a0), (1, jI a1), (2, jI a2)] [] h Q
  refine jw_ok (fun ok q => ?_)
  replace k := k ok (q _ (.tail _ (.head _))) (q _ (.tail _ (.tail _ (.head _))))
  refine wp_iload_n 1 dX6_bytesOf_0 rfl ?_
  refine wp_iload_n 2 dX6_bytesOf_1 rfl ?_
  refine wp_icmp_le 23 dX6_bytesOf_2 rfl (fun q => ?_) (fun q => ?_)
  · replace k := k.1 q
    refine wp_iconst dX6_bytesOf_23 ⟨by decide, by decide⟩ ?_
    refine wp_istore_n [1, 2, 0] (ls' := [(0, jR a0), (1, jI a1), (3, jI 0)]) dX6_bytesOf_24 (by decide) rfl ?_
    refine wp_iload_n 2 dX6_bytesOf_25 rfl ?_
    refine wp_aload_n 0 dX6_bytesOf_26 rfl ?_
    have c1 := k.1
    replace k := k.2
    refine wp_getR (ci := 4) (j := 0) rfl (by decide) gX6_11 dX6_bytesOf_27 c1 rfl ?_
    refine wp_iload_n 1 dX6_bytesOf_30 rfl ?_
    have c2 := k.1
    replace k := k.2
    have c3 := k.1
    replace k := k.2
    have c4 := k.1
    replace k := k.2
    refine wp_aaload (n := 14) dX6_bytesOf_31 c2 (by decide) c3 c4 ?_
    have c5 := k.1
    replace k := k.2
    refine wp_callV (ci := 2) (y' := mX4_digits) (st := [jI 0]) [] rfl rfl rfl fX4_digits kX6_37 nX4_digits dX6_bytesOf_32 (Nat.le_of_ble_eq_true rfl) c5 ?_
    refine jCall.mono k (fun o h32 k => ?_)
    obtain ⟨v32, e, k⟩ := k
    subst e
    show jWp (d + 1) mX6_bytesOf 35 [(0, jR a0), (1, jI a1), (3, jI 0)] [jI v32, jI 0] h32 Q
    have c6 := k.1
    replace k := k.2
    refine wp_iadd dX6_bytesOf_35 c6 ?_
    refine wp_aload_n 0 dX6_bytesOf_36 rfl ?_
    have c7 := k.1
    replace k := k.2
    refine wp_getR (ci := 4) (j := 0) rfl (by decide) gX6_11 dX6_bytesOf_37 c7 rfl ?_
    refine wp_iload_n 1 dX6_bytesOf_40 rfl ?_
    have c8 := k.1
    replace k := k.2
    have c9 := k.1
    replace k := k.2
    have c10 := k.1
    replace k := k.2
    refine wp_aaload (n := 14) dX6_bytesOf_41 c8 (by decide) c9 c10 ?_
    have c11 := k.1
    replace k := k.2
    refine wp_callV (ci := 2) (y' := mX4_value) (st := [jI (0 + v32)]) [] rfl rfl rfl fX4_value kX6_77 nX4_value dX6_bytesOf_42 (Nat.le_of_ble_eq_true rfl) c11 ?_
    refine jCall.mono k (fun o h42 k => ?_)
    obtain ⟨v42, e, k⟩ := k
    subst e
    show jWp (d + 1) mX6_bytesOf 45 [(0, jR a0), (1, jI a1), (3, jI 0)] [jR v42, jI (0 + v32)] h42 Q
    have c12 := k.1
    replace k := k.2
    refine wp_callV (ci := 5) (y' := mX7_count) (st := [jI (0 + v32)]) [] rfl rfl rfl fX7_count kX6_81 nX7_count dX6_bytesOf_45 (Nat.le_of_ble_eq_true rfl) c12 ?_
    refine jCall.mono k (fun o h45 k => ?_)
    obtain ⟨v45, e, k⟩ := k
    subst e
    show jWp (d + 1) mX6_bytesOf 48 [(0, jR a0), (1, jI a1), (3, jI 0)] [jI v45, jI (0 + v32)] h45 Q
    have c13 := k.1
    replace k := k.2
    refine wp_iadd dX6_bytesOf_48 c13 ?_
    exact wp_iret dX6_bytesOf_49 rfl k
  · replace k := k.2 q
    refine wp_aload_n 0 dX6_bytesOf_5 rfl ?_
    have c14 := k.1
    replace k := k.2
    refine wp_getR (ci := 4) (j := 0) rfl (by decide) gX6_11 dX6_bytesOf_6 c14 rfl ?_
    refine wp_iload_n 1 dX6_bytesOf_9 rfl ?_
    refine wp_iconst dX6_bytesOf_10 ⟨by decide, by decide⟩ ?_
    have c15 := k.1
    replace k := k.2
    refine wp_isub dX6_bytesOf_11 c15 ?_
    have c16 := k.1
    replace k := k.2
    have c17 := k.1
    replace k := k.2
    have c18 := k.1
    replace k := k.2
    refine wp_aaload (n := 14) dX6_bytesOf_12 c16 (by decide) c17 c18 ?_
    have c19 := k.1
    replace k := k.2
    refine wp_callV (ci := 2) (y' := mX4_isFixed) (st := []) [] rfl rfl rfl fX4_isFixed kX6_73 nX4_isFixed dX6_bytesOf_13 (Nat.le_of_ble_eq_true rfl) c19 ?_
    refine jCall.mono k (fun o h13 k => ?_)
    obtain ⟨v13, e, k⟩ := k
    subst e
    show jWp (d + 1) mX6_bytesOf 16 [(0, jR a0), (1, jI a1), (2, jI a2)] [jI v13] h13 Q
    refine wp_if_ne 23 dX6_bytesOf_16 rfl (fun q => ?_) (fun q => ?_)
    · replace k := k.1 q
      refine wp_iconst dX6_bytesOf_23 ⟨by decide, by decide⟩ ?_
      refine wp_istore_n [1, 2, 0] (ls' := [(0, jR a0), (1, jI a1), (3, jI 0)]) dX6_bytesOf_24 (by decide) rfl ?_
      refine wp_iload_n 2 dX6_bytesOf_25 rfl ?_
      refine wp_aload_n 0 dX6_bytesOf_26 rfl ?_
      have c20 := k.1
      replace k := k.2
      refine wp_getR (ci := 4) (j := 0) rfl (by decide) gX6_11 dX6_bytesOf_27 c20 rfl ?_
      refine wp_iload_n 1 dX6_bytesOf_30 rfl ?_
      have c21 := k.1
      replace k := k.2
      have c22 := k.1
      replace k := k.2
      have c23 := k.1
      replace k := k.2
      refine wp_aaload (n := 14) dX6_bytesOf_31 c21 (by decide) c22 c23 ?_
      have c24 := k.1
      replace k := k.2
      refine wp_callV (ci := 2) (y' := mX4_digits) (st := [jI 0]) [] rfl rfl rfl fX4_digits kX6_37 nX4_digits dX6_bytesOf_32 (Nat.le_of_ble_eq_true rfl) c24 ?_
      refine jCall.mono k (fun o h32_1 k => ?_)
      obtain ⟨v32_1, e, k⟩ := k
      subst e
      show jWp (d + 1) mX6_bytesOf 35 [(0, jR a0), (1, jI a1), (3, jI 0)] [jI v32_1, jI 0] h32_1 Q
      have c25 := k.1
      replace k := k.2
      refine wp_iadd dX6_bytesOf_35 c25 ?_
      refine wp_aload_n 0 dX6_bytesOf_36 rfl ?_
      have c26 := k.1
      replace k := k.2
      refine wp_getR (ci := 4) (j := 0) rfl (by decide) gX6_11 dX6_bytesOf_37 c26 rfl ?_
      refine wp_iload_n 1 dX6_bytesOf_40 rfl ?_
      have c27 := k.1
      replace k := k.2
      have c28 := k.1
      replace k := k.2
      have c29 := k.1
      replace k := k.2
      refine wp_aaload (n := 14) dX6_bytesOf_41 c27 (by decide) c28 c29 ?_
      have c30 := k.1
      replace k := k.2
      refine wp_callV (ci := 2) (y' := mX4_value) (st := [jI (0 + v32_1)]) [] rfl rfl rfl fX4_value kX6_77 nX4_value dX6_bytesOf_42 (Nat.le_of_ble_eq_true rfl) c30 ?_
      refine jCall.mono k (fun o h42_1 k => ?_)
      obtain ⟨v42_1, e, k⟩ := k
      subst e
      show jWp (d + 1) mX6_bytesOf 45 [(0, jR a0), (1, jI a1), (3, jI 0)] [jR v42_1, jI (0 + v32_1)] h42_1 Q
      have c31 := k.1
      replace k := k.2
      refine wp_callV (ci := 5) (y' := mX7_count) (st := [jI (0 + v32_1)]) [] rfl rfl rfl fX7_count kX6_81 nX7_count dX6_bytesOf_45 (Nat.le_of_ble_eq_true rfl) c31 ?_
      refine jCall.mono k (fun o h45_1 k => ?_)
      obtain ⟨v45_1, e, k⟩ := k
      subst e
      show jWp (d + 1) mX6_bytesOf 48 [(0, jR a0), (1, jI a1), (3, jI 0)] [jI v45_1, jI (0 + v32_1)] h45_1 Q
      have c32 := k.1
      replace k := k.2
      refine wp_iadd dX6_bytesOf_48 c32 ?_
      exact wp_iret dX6_bytesOf_49 rfl k
    · replace k := k.2 q
      refine wp_iconst dX6_bytesOf_19 ⟨by decide, by decide⟩ ?_
      refine wp_goto 24 dX6_bytesOf_20 rfl ?_
      refine wp_istore_n [1, 2, 0] (ls' := [(0, jR a0), (1, jI a1), (3, jI 1)]) dX6_bytesOf_24 (by decide) rfl ?_
      refine wp_iload_n 2 dX6_bytesOf_25 rfl ?_
      refine wp_aload_n 0 dX6_bytesOf_26 rfl ?_
      have c33 := k.1
      replace k := k.2
      refine wp_getR (ci := 4) (j := 0) rfl (by decide) gX6_11 dX6_bytesOf_27 c33 rfl ?_
      refine wp_iload_n 1 dX6_bytesOf_30 rfl ?_
      have c34 := k.1
      replace k := k.2
      have c35 := k.1
      replace k := k.2
      have c36 := k.1
      replace k := k.2
      refine wp_aaload (n := 14) dX6_bytesOf_31 c34 (by decide) c35 c36 ?_
      have c37 := k.1
      replace k := k.2
      refine wp_callV (ci := 2) (y' := mX4_digits) (st := [jI 1]) [] rfl rfl rfl fX4_digits kX6_37 nX4_digits dX6_bytesOf_32 (Nat.le_of_ble_eq_true rfl) c37 ?_
      refine jCall.mono k (fun o h32_2 k => ?_)
      obtain ⟨v32_2, e, k⟩ := k
      subst e
      show jWp (d + 1) mX6_bytesOf 35 [(0, jR a0), (1, jI a1), (3, jI 1)] [jI v32_2, jI 1] h32_2 Q
      have c38 := k.1
      replace k := k.2
      refine wp_iadd dX6_bytesOf_35 c38 ?_
      refine wp_aload_n 0 dX6_bytesOf_36 rfl ?_
      have c39 := k.1
      replace k := k.2
      refine wp_getR (ci := 4) (j := 0) rfl (by decide) gX6_11 dX6_bytesOf_37 c39 rfl ?_
      refine wp_iload_n 1 dX6_bytesOf_40 rfl ?_
      have c40 := k.1
      replace k := k.2
      have c41 := k.1
      replace k := k.2
      have c42 := k.1
      replace k := k.2
      refine wp_aaload (n := 14) dX6_bytesOf_41 c40 (by decide) c41 c42 ?_
      have c43 := k.1
      replace k := k.2
      refine wp_callV (ci := 2) (y' := mX4_value) (st := [jI (1 + v32_2)]) [] rfl rfl rfl fX4_value kX6_77 nX4_value dX6_bytesOf_42 (Nat.le_of_ble_eq_true rfl) c43 ?_
      refine jCall.mono k (fun o h42_2 k => ?_)
      obtain ⟨v42_2, e, k⟩ := k
      subst e
      show jWp (d + 1) mX6_bytesOf 45 [(0, jR a0), (1, jI a1), (3, jI 1)] [jR v42_2, jI (1 + v32_2)] h42_2 Q
      have c44 := k.1
      replace k := k.2
      refine wp_callV (ci := 5) (y' := mX7_count) (st := [jI (1 + v32_2)]) [] rfl rfl rfl fX7_count kX6_81 nX7_count dX6_bytesOf_45 (Nat.le_of_ble_eq_true rfl) c44 ?_
      refine jCall.mono k (fun o h45_2 k => ?_)
      obtain ⟨v45_2, e, k⟩ := k
      subst e
      show jWp (d + 1) mX6_bytesOf 48 [(0, jR a0), (1, jI a1), (3, jI 1)] [jI v45_2, jI (1 + v32_2)] h45_2 Q
      have c45 := k.1
      replace k := k.2
      refine wp_iadd dX6_bytesOf_48 c45 ?_
      exact wp_iret dX6_bytesOf_49 rfl k
theorem bX6_stringBytes {d : Nat} {h : jH} {Q : jO → jH → Prop} {a0 : Nat} (k : jOK h → jWp (d + 1) mX6_stringBytes 4 [(0, jR a0), (1, jI 0), (2, jI 0)] [] h Q) : jCall (d + 1) mX6_stringBytes [jR a0] h Q := by
  refine jCall_of plX6 (Nat.le_of_ble_eq_true rfl) ?_
  show jWp (d + 1) mX6_stringBytes 0 [(0, jR a0)] [] h Q
  refine jw_ok (fun ok q => ?_)
  replace k := k ok 
  refine wp_iconst dX6_stringBytes_0 ⟨by decide, by decide⟩ ?_
  refine wp_istore_n [1, 0] (ls' := [(0, jR a0), (1, jI 0)]) dX6_stringBytes_1 (by decide) rfl ?_
  refine wp_iconst dX6_stringBytes_2 ⟨by decide, by decide⟩ ?_
  refine wp_istore_n [1, 2, 0] (ls' := [(0, jR a0), (1, jI 0), (2, jI 0)]) dX6_stringBytes_3 (by decide) rfl ?_
  exact k
theorem bX6_stringBytes_4 {d : Nat} {h : jH} {Q : jO → jH → Prop} {a0 : Nat} {a1 : Int} {a2 : Int} (k : jOK h → j32 a1 → j32 a2 → hK h a0 = 5 ∧ (j32 (hI h 402 a0) → (((hI h 402 a0) ≤ a2 → Q (.inl (some (jI a1))) h) ∧ (¬ ((hI h 402 a0) ≤ a2) → jCall d mX6_bytesOf [jR a0, jI a2, jI 0] h (fun o h16 => ∃ v16, o = .inl (some (jI v16)) ∧ j32 (a1 + v16) ∧ j32 (a2 + 1) ∧ jWp (d + 1) mX6_stringBytes 4 [(0, jR a0), (1, jI (a1 + v16)), (2, jI (a2 + 1))] [] h16 Q))))) : jWp (d + 1) mX6_stringBytes 4 [(0, jR a0), (1, jI a1), (2, jI a2)] [] h Q := by
  refine jw_ok (fun ok q => ?_)
  replace k := k ok (q _ (.tail _ (.head _))) (q _ (.tail _ (.tail _ (.head _))))
  refine wp_iload_n 2 dX6_stringBytes_4 rfl ?_
  refine wp_aload_n 0 dX6_stringBytes_5 rfl ?_
  have c1 := k.1
  replace k := k.2
  refine wp_getI (ci := 4) (j := 2) rfl (by decide) gX6_21 dX6_stringBytes_6 c1 rfl (fun q => ?_)
  have f2 := q
  replace k := k q
  refine wp_icmp_ge 27 dX6_stringBytes_9 rfl (fun q => ?_) (fun q => ?_)
  · replace k := k.1 q
    refine wp_iload_n 1 dX6_stringBytes_27 rfl ?_
    exact wp_iret dX6_stringBytes_28 rfl k
  · replace k := k.2 q
    refine wp_iload_n 1 dX6_stringBytes_12 rfl ?_
    refine wp_aload_n 0 dX6_stringBytes_13 rfl ?_
    refine wp_iload_n 2 dX6_stringBytes_14 rfl ?_
    refine wp_iconst dX6_stringBytes_15 ⟨by decide, by decide⟩ ?_
    refine wp_callV (ci := 4) (y' := mX6_bytesOf) (st := [jI a1]) [jI a2, jI 0] rfl rfl rfl fX6_bytesOf kX6_85 nX6_bytesOf dX6_stringBytes_16 (Nat.le_of_ble_eq_true rfl) c1 ?_
    refine jCall.mono k (fun o h16 k => ?_)
    obtain ⟨v16, e, k⟩ := k
    subst e
    show jWp (d + 1) mX6_stringBytes 19 [(0, jR a0), (1, jI a1), (2, jI a2)] [jI v16, jI a1] h16 Q
    have c3 := k.1
    replace k := k.2
    refine wp_iadd dX6_stringBytes_19 c3 ?_
    refine wp_istore_n [1, 0, 2] (ls' := [(0, jR a0), (1, jI (a1 + v16)), (2, jI a2)]) dX6_stringBytes_20 (by decide) rfl ?_
    have c4 := k.1
    replace k := k.2
    refine wp_iinc 2 [1, 2, 0] (ls' := [(0, jR a0), (1, jI (a1 + v16)), (2, jI (a2 + 1))]) dX6_stringBytes_21 rfl c4 ⟨by decide, by decide⟩ (by decide) rfl ?_
    refine wp_goto 4 dX6_stringBytes_24 rfl ?_
    exact k
theorem bX6_symbolEnd {d : Nat} {h : jH} {Q : jO → jH → Prop} {a0 : Nat} {a1 : Int} (k : jOK h → j32 a1 → jCall d mJ9_max_7cf53 [jI a1, jI 0] h (fun o h4 => ∃ v4, o = .inl (some (jI v4)) ∧ jWp (d + 1) mX6_symbolEnd 8 [(0, jR a0), (1, jI a1), (2, jI 0), (3, jI v4)] [] h4 Q)) : jCall (d + 1) mX6_symbolEnd [jR a0, jI a1] h Q := by
  refine jCall_of plX6 (Nat.le_of_ble_eq_true rfl) ?_
  show jWp (d + 1) mX6_symbolEnd 0 [(0, jR a0), (1, jI a1)] [] h Q
  refine jw_ok (fun ok q => ?_)
  replace k := k ok (q _ (.tail _ (.head _)))
  refine wp_iconst dX6_symbolEnd_0 ⟨by decide, by decide⟩ ?_
  refine wp_istore_n [1, 2, 0] (ls' := [(0, jR a0), (1, jI a1), (2, jI 0)]) dX6_symbolEnd_1 (by decide) rfl ?_
  refine wp_iload_n 1 dX6_symbolEnd_2 rfl ?_
  refine wp_iconst dX6_symbolEnd_3 ⟨by decide, by decide⟩ ?_
  refine wp_callS (y' := mJ9_max_7cf53) (st := []) [jI a1, jI 0] rfl fJ9_max_7cf53 kX6_88 nJ9_max_7cf53 dX6_symbolEnd_4 (Nat.le_of_ble_eq_true rfl) ?_
  refine jCall.mono k (fun o h4 k => ?_)
  obtain ⟨v4, e, k⟩ := k
  subst e
  show jWp (d + 1) mX6_symbolEnd 7 [(0, jR a0), (1, jI a1), (2, jI 0)] [jI v4] h4 Q
  refine wp_istore_n [1, 2, 3, 0] (ls' := [(0, jR a0), (1, jI a1), (2, jI 0), (3, jI v4)]) dX6_symbolEnd_7 (by decide) rfl ?_
  exact k
theorem bX6_symbolEnd_8 {d : Nat} {h : jH} {Q : jO → jH → Prop} {a0 : Nat} {a1 : Int} {a2 : Int} {a3 : Int} (k : jOK h → j32 a1 → j32 a2 → j32 a3 → hK h a0 = 5 ∧ (j32 (hI h 402 a0) → (((hI h 402 a0) ≤ a3 → Q (.inl (some (jI (hI h 402 a0)))) h) ∧ (¬ ((hI h 402 a0) ≤ a3) → jCall d mX6_bytesOf [jR a0, jI a3, jI a1] h (fun o h20 => ∃ v20, o = .inl (some (jI v20)) ∧ j32 (a2 + v20) ∧ (((a2 + v20) ≤ 48 → j32 (a3 + 1) ∧ jWp (d + 1) mX6_symbolEnd 8 [(0, jR a0), (1, jI a1), (2, jI (a2 + v20)), (3, jI (a3 + 1))] [] h20 Q) ∧ (¬ ((a2 + v20) ≤ 48) → Q (.inl (some (jI a3))) h20))))))) : jWp (d + 1) mX6_symbolEnd 8 [(0, jR a0), (1, jI a1), (2, jI a2), (3, jI a3)] [] h Q := by
  refine jw_ok (fun ok q => ?_)
  replace k := k ok (q _ (.tail _ (.head _))) (q _ (.tail _ (.tail _ (.head _)))) (q _ (.tail _ (.tail _ (.tail _ (.head _)))))
  refine wp_iload_n 3 dX6_symbolEnd_8 rfl ?_
  refine wp_aload_n 0 dX6_symbolEnd_9 rfl ?_
  have c1 := k.1
  replace k := k.2
  refine wp_getI (ci := 4) (j := 2) rfl (by decide) gX6_21 dX6_symbolEnd_10 c1 rfl (fun q => ?_)
  have f2 := q
  replace k := k q
  refine wp_icmp_ge 39 dX6_symbolEnd_13 rfl (fun q => ?_) (fun q => ?_)
  · replace k := k.1 q
    refine wp_aload_n 0 dX6_symbolEnd_39 rfl ?_
    refine wp_getI (ci := 4) (j := 2) rfl (by decide) gX6_21 dX6_symbolEnd_40 c1 rfl (fun q => ?_)
    exact wp_iret dX6_symbolEnd_43 rfl k
  · replace k := k.2 q
    refine wp_iload_n 2 dX6_symbolEnd_16 rfl ?_
    refine wp_aload_n 0 dX6_symbolEnd_17 rfl ?_
    refine wp_iload_n 3 dX6_symbolEnd_18 rfl ?_
    refine wp_iload_n 1 dX6_symbolEnd_19 rfl ?_
    refine wp_callV (ci := 4) (y' := mX6_bytesOf) (st := [jI a2]) [jI a3, jI a1] rfl rfl rfl fX6_bytesOf kX6_85 nX6_bytesOf dX6_symbolEnd_20 (Nat.le_of_ble_eq_true rfl) c1 ?_
    refine jCall.mono k (fun o h20 k => ?_)
    obtain ⟨v20, e, k⟩ := k
    subst e
    show jWp (d + 1) mX6_symbolEnd 23 [(0, jR a0), (1, jI a1), (2, jI a2), (3, jI a3)] [jI v20, jI a2] h20 Q
    have c3 := k.1
    replace k := k.2
    refine wp_iadd dX6_symbolEnd_23 c3 ?_
    refine wp_istore_n [1, 2, 0, 3] (ls' := [(0, jR a0), (1, jI a1), (2, jI (a2 + v20)), (3, jI a3)]) dX6_symbolEnd_24 (by decide) rfl ?_
    refine wp_iload_n 2 dX6_symbolEnd_25 rfl ?_
    refine wp_bipush dX6_symbolEnd_26 ⟨by decide, by decide⟩ ?_
    refine wp_icmp_le 33 dX6_symbolEnd_28 rfl (fun q => ?_) (fun q => ?_)
    · replace k := k.1 q
      have c4 := k.1
      replace k := k.2
      refine wp_iinc 3 [1, 2, 3, 0] (ls' := [(0, jR a0), (1, jI a1), (2, jI (a2 + v20)), (3, jI (a3 + 1))]) dX6_symbolEnd_33 rfl c4 ⟨by decide, by decide⟩ (by decide) rfl ?_
      refine wp_goto 8 dX6_symbolEnd_36 rfl ?_
      exact k
    · replace k := k.2 q
      refine wp_iload_n 3 dX6_symbolEnd_31 rfl ?_
      exact wp_iret dX6_symbolEnd_32 rfl k
theorem bX6_symbols {d : Nat} {h : jH} {Q : jO → jH → Prop} {a0 : Nat} (k : jOK h → jWp (d + 1) mX6_symbols 4 [(0, jR a0), (1, jI 0), (2, jI 0)] [] h Q) : jCall (d + 1) mX6_symbols [jR a0] h Q := by
  refine jCall_of plX6 (Nat.le_of_ble_eq_true rfl) ?_
  show jWp (d + 1) mX6_symbols 0 [(0, jR a0)] [] h Q
  refine jw_ok (fun ok q => ?_)
  replace k := k ok 
  refine wp_iconst dX6_symbols_0 ⟨by decide, by decide⟩ ?_
  refine wp_istore_n [1, 0] (ls' := [(0, jR a0), (1, jI 0)]) dX6_symbols_1 (by decide) rfl ?_
  refine wp_iconst dX6_symbols_2 ⟨by decide, by decide⟩ ?_
  refine wp_istore_n [1, 2, 0] (ls' := [(0, jR a0), (1, jI 0), (2, jI 0)]) dX6_symbols_3 (by decide) rfl ?_
  exact k
theorem bX6_symbols_4 {d : Nat} {h : jH} {Q : jO → jH → Prop} {a0 : Nat} {a1 : Int} {a2 : Int} (k : jOK h → j32 a1 → j32 a2 → ((20 < a2 → Q (.inl (some (jI (-1)))) h) ∧ (¬ (20 < a2) → hK h a0 = 5 ∧ (j32 (hI h 402 a0) → ((a1 < (hI h 402 a0) → jCall d mX6_symbolEnd [jR a0, jI a1] h (fun o h22 => ∃ v22, o = .inl (some (jI v22)) ∧ ((v22 ≠ a1 → j32 (a2 + 1) ∧ jWp (d + 1) mX6_symbols 4 [(0, jR a0), (1, jI v22), (2, jI (a2 + 1))] [] h22 Q) ∧ (v22 = a1 → Q (.inl (some (jI (-1)))) h22)))) ∧ (¬ (a1 < (hI h 402 a0)) → Q (.inl (some (jI a2))) h)))))) : jWp (d + 1) mX6_symbols 4 [(0, jR a0), (1, jI a1), (2, jI a2)] [] h Q := by
  refine jw_ok (fun ok q => ?_)
  replace k := k ok (q _ (.tail _ (.head _))) (q _ (.tail _ (.tail _ (.head _))))
  refine wp_iload_n 2 dX6_symbols_4 rfl ?_
  refine wp_bipush dX6_symbols_5 ⟨by decide, by decide⟩ ?_
  refine wp_icmp_gt 41 dX6_symbols_7 rfl (fun q => ?_) (fun q => ?_)
  · replace k := k.1 q
    refine wp_iconst dX6_symbols_41 ⟨by decide, by decide⟩ ?_
    exact wp_iret dX6_symbols_42 rfl k
  · replace k := k.2 q
    refine wp_iload_n 1 dX6_symbols_10 rfl ?_
    refine wp_aload_n 0 dX6_symbols_11 rfl ?_
    have c1 := k.1
    replace k := k.2
    refine wp_getI (ci := 4) (j := 2) rfl (by decide) gX6_21 dX6_symbols_12 c1 rfl (fun q => ?_)
    have f2 := q
    replace k := k q
    refine wp_icmp_lt 20 dX6_symbols_15 rfl (fun q => ?_) (fun q => ?_)
    · replace k := k.1 q
      refine wp_aload_n 0 dX6_symbols_20 rfl ?_
      refine wp_iload_n 1 dX6_symbols_21 rfl ?_
      refine wp_callV (ci := 4) (y' := mX6_symbolEnd) (st := []) [jI a1] rfl rfl rfl fX6_symbolEnd kX6_93 nX6_symbolEnd dX6_symbols_22 (Nat.le_of_ble_eq_true rfl) c1 ?_
      refine jCall.mono k (fun o h22 k => ?_)
      obtain ⟨v22, e, k⟩ := k
      subst e
      show jWp (d + 1) mX6_symbols 25 [(0, jR a0), (1, jI a1), (2, jI a2)] [jI v22] h22 Q
      refine wp_istore_n [1, 2, 3, 0] (ls' := [(0, jR a0), (1, jI a1), (2, jI a2), (3, jI v22)]) dX6_symbols_25 (by decide) rfl ?_
      refine wp_iload_n 3 dX6_symbols_26 rfl ?_
      refine wp_iload_n 1 dX6_symbols_27 rfl ?_
      refine wp_icmp_ne 33 dX6_symbols_28 rfl (fun q => ?_) (fun q => ?_)
      · replace k := k.1 q
        refine wp_iload_n 3 dX6_symbols_33 rfl ?_
        refine wp_istore_n [1, 0, 2] (ls' := [(0, jR a0), (1, jI v22), (2, jI a2)]) dX6_symbols_34 (by decide) rfl ?_
        have c3 := k.1
        replace k := k.2
        refine wp_iinc 2 [1, 2, 0] (ls' := [(0, jR a0), (1, jI v22), (2, jI (a2 + 1))]) dX6_symbols_35 rfl c3 ⟨by decide, by decide⟩ (by decide) rfl ?_
        refine wp_goto 4 dX6_symbols_38 rfl ?_
        exact k
      · replace k := k.2 q
        refine wp_iconst dX6_symbols_31 ⟨by decide, by decide⟩ ?_
        exact wp_iret dX6_symbols_32 rfl k
    · replace k := k.2 q
      refine wp_iload_n 2 dX6_symbols_18 rfl ?_
      exact wp_iret dX6_symbols_19 rfl k
theorem bX6_writeString {d : Nat} {h : jH} {Q : jO → jH → Prop} {a0 : Nat} {a1 : Nat} {a2 : Int} {a3 : Int} (k : jOK h → j32 a2 → j32 a3 → jCall d mJ9_max_7cf53 [jI a2, jI 0] h (fun o h2 => ∃ v2, o = .inl (some (jI v2)) ∧ jWp (d + 1) mX6_writeString 7 [(0, jR a0), (1, jR a1), (2, jI a2), (3, jI a3), (4, jI v2)] [] h2 Q)) : jCall (d + 1) mX6_writeString [jR a0, jR a1, jI a2, jI a3] h Q := by
  refine jCall_of plX6 (Nat.le_of_ble_eq_true rfl) ?_
  show jWp (d + 1) mX6_writeString 0 [(0, jR a0), (1, jR a1), (2, jI a2), (3, jI a3)] [] h Q
  refine jw_ok (fun ok q => ?_)
  replace k := k ok (q _ (.tail _ (.tail _ (.head _)))) (q _ (.tail _ (.tail _ (.tail _ (.head _)))))
  refine wp_iload_n 2 dX6_writeString_0 rfl ?_
  refine wp_iconst dX6_writeString_1 ⟨by decide, by decide⟩ ?_
  refine wp_callS (y' := mJ9_max_7cf53) (st := []) [jI a2, jI 0] rfl fJ9_max_7cf53 kX6_88 nJ9_max_7cf53 dX6_writeString_2 (Nat.le_of_ble_eq_true rfl) ?_
  refine jCall.mono k (fun o h2 k => ?_)
  obtain ⟨v2, e, k⟩ := k
  subst e
  show jWp (d + 1) mX6_writeString 5 [(0, jR a0), (1, jR a1), (2, jI a2), (3, jI a3)] [jI v2] h2 Q
  refine wp_istore [1, 2, 3, 4, 0] (ls' := [(0, jR a0), (1, jR a1), (2, jI a2), (3, jI a3), (4, jI v2)]) dX6_writeString_5 (by decide) rfl ?_
  exact k
theorem bX6_writeString_7 {d : Nat} {h : jH} {Q : jO → jH → Prop} {a0 : Nat} {a1 : Nat} {a2 : Int} {a3 : Int} {a4 : Int} (k : jOK h → j32 a2 → j32 a3 → j32 a4 → ((a3 ≤ a4 → Q (.inl none) h) ∧ (¬ (a3 ≤ a4) → hK h a0 = 5 ∧ (j32 (hI h 402 a0) → (((hI h 402 a0) ≤ a4 → Q (.inl none) h) ∧ (¬ ((hI h 402 a0) ≤ a4) → ((a4 ≤ a2 → hK h (hR h 400 a0) = 14 ∧ 0 ≤ a4 ∧ a4 < hN h (hR h 400 a0) ∧ hK h (hQ h (hR h 400 a0) a4) = 3 ∧ jCall d mX4_writeAi [jR (hQ h (hR h 400 a0) a4), jR a1] h (fun o h57 => o = .inl none ∧ hK h57 a0 = 5 ∧ hK h57 (hR h57 400 a0) = 14 ∧ 0 ≤ a4 ∧ a4 < hN h57 (hR h57 400 a0) ∧ hK h57 (hQ h57 (hR h57 400 a0) a4) = 3 ∧ jCall d mX4_value [jR (hQ h57 (hR h57 400 a0) a4)] h57 (fun o h68 => ∃ v68, o = .inl (some (jR v68)) ∧ hK h68 a1 = 6 ∧ jCall d mX7_append [jR a1, jR v68] h68 (fun o h71 => o = .inl none ∧ j32 (a4 + 1) ∧ jWp (d + 1) mX6_writeString 7 [(0, jR a0), (1, jR a1), (2, jI a2), (3, jI a3), (4, jI (a4 + 1))] [] h71 Q)))) ∧ (¬ (a4 ≤ a2) → j32 (a4 - 1) ∧ hK h (hR h 400 a0) = 14 ∧ 0 ≤ (a4 - 1) ∧ (a4 - 1) < hN h (hR h 400 a0) ∧ hK h (hQ h (hR h 400 a0) (a4 - 1)) = 3 ∧ jCall d mX4_isFixed [jR (hQ h (hR h 400 a0) (a4 - 1))] h (fun o h37 => ∃ v37, o = .inl (some (jI v37)) ∧ ((v37 ≠ 0 → hK h37 a0 = 5 ∧ hK h37 (hR h37 400 a0) = 14 ∧ 0 ≤ a4 ∧ a4 < hN h37 (hR h37 400 a0) ∧ hK h37 (hQ h37 (hR h37 400 a0) a4) = 3 ∧ jCall d mX4_writeAi [jR (hQ h37 (hR h37 400 a0) a4), jR a1] h37 (fun o h57_1 => o = .inl none ∧ hK h57_1 a0 = 5 ∧ hK h57_1 (hR h57_1 400 a0) = 14 ∧ 0 ≤ a4 ∧ a4 < hN h57_1 (hR h57_1 400 a0) ∧ hK h57_1 (hQ h57_1 (hR h57_1 400 a0) a4) = 3 ∧ jCall d mX4_value [jR (hQ h57_1 (hR h57_1 400 a0) a4)] h57_1 (fun o h68_1 => ∃ v68_1, o = .inl (some (jR v68_1)) ∧ hK h68_1 a1 = 6 ∧ jCall d mX7_append [jR a1, jR v68_1] h68_1 (fun o h71_1 => o = .inl none ∧ j32 (a4 + 1) ∧ jWp (d + 1) mX6_writeString 7 [(0, jR a0), (1, jR a1), (2, jI a2), (3, jI a3), (4, jI (a4 + 1))] [] h71_1 Q)))) ∧ (v37 = 0 → hK h37 a1 = 6 ∧ jCall d mX7_put [jR a1, jI 29] h37 (fun o h46 => o = .inl none ∧ hK h46 a0 = 5 ∧ hK h46 (hR h46 400 a0) = 14 ∧ 0 ≤ a4 ∧ a4 < hN h46 (hR h46 400 a0) ∧ hK h46 (hQ h46 (hR h46 400 a0) a4) = 3 ∧ jCall d mX4_writeAi [jR (hQ h46 (hR h46 400 a0) a4), jR a1] h46 (fun o h57_2 => o = .inl none ∧ hK h57_2 a0 = 5 ∧ hK h57_2 (hR h57_2 400 a0) = 14 ∧ 0 ≤ a4 ∧ a4 < hN h57_2 (hR h57_2 400 a0) ∧ hK h57_2 (hQ h57_2 (hR h57_2 400 a0) a4) = 3 ∧ jCall d mX4_value [jR (hQ h57_2 (hR h57_2 400 a0) a4)] h57_2 (fun o h68_2 => ∃ v68_2, o = .inl (some (jR v68_2)) ∧ hK h68_2 a1 = 6 ∧ jCall d mX7_append [jR a1, jR v68_2] h68_2 (fun o h71_2 => o = .inl none ∧ j32 (a4 + 1) ∧ jWp (d + 1) mX6_writeString 7 [(0, jR a0), (1, jR a1), (2, jI a2), (3, jI a3), (4, jI (a4 + 1))] [] h71_2 Q))))))))))))))) : jWp (d + 1) mX6_writeString 7 [(0, jR a0), (1, jR a1), (2, jI a2), (3, jI a3), (4, jI a4)] [] h Q := by
  refine jw_ok (fun ok q => ?_)
  replace k := k ok (q _ (.tail _ (.tail _ (.head _)))) (q _ (.tail _ (.tail _ (.tail _ (.head _))))) (q _ (.tail _ (.tail _ (.tail _ (.tail _ (.head _))))))
  refine wp_iload 4 dX6_writeString_7 rfl ?_
  refine wp_iload_n 3 dX6_writeString_9 rfl ?_
  refine wp_icmp_ge 80 dX6_writeString_10 rfl (fun q => ?_) (fun q => ?_)
  · replace k := k.1 q
    exact wp_return dX6_writeString_80 rfl k
  · replace k := k.2 q
    refine wp_iload 4 dX6_writeString_13 rfl ?_
    refine wp_aload_n 0 dX6_writeString_15 rfl ?_
    have c1 := k.1
    replace k := k.2
    refine wp_getI (ci := 4) (j := 2) rfl (by decide) gX6_21 dX6_writeString_16 c1 rfl (fun q => ?_)
    have f2 := q
    replace k := k q
    refine wp_icmp_ge 80 dX6_writeString_19 rfl (fun q => ?_) (fun q => ?_)
    · replace k := k.1 q
      exact wp_return dX6_writeString_80 rfl k
    · replace k := k.2 q
      refine wp_iload 4 dX6_writeString_22 rfl ?_
      refine wp_iload_n 2 dX6_writeString_24 rfl ?_
      refine wp_icmp_le 49 dX6_writeString_25 rfl (fun q => ?_) (fun q => ?_)
      · replace k := k.1 q
        refine wp_aload_n 0 dX6_writeString_49 rfl ?_
        refine wp_getR (ci := 4) (j := 0) rfl (by decide) gX6_11 dX6_writeString_50 c1 rfl ?_
        refine wp_iload 4 dX6_writeString_53 rfl ?_
        have c3 := k.1
        replace k := k.2
        have c4 := k.1
        replace k := k.2
        have c5 := k.1
        replace k := k.2
        refine wp_aaload (n := 14) dX6_writeString_55 c3 (by decide) c4 c5 ?_
        refine wp_aload_n 1 dX6_writeString_56 rfl ?_
        have c6 := k.1
        replace k := k.2
        refine wp_callV (ci := 2) (y' := mX4_writeAi) (st := []) [jR a1] rfl rfl rfl fX4_writeAi kX6_100 nX4_writeAi dX6_writeString_57 (Nat.le_of_ble_eq_true rfl) c6 ?_
        refine jCall.mono k (fun o h57 k => ?_)
        obtain ⟨e, k⟩ := k
        subst e
        show jWp (d + 1) mX6_writeString 60 [(0, jR a0), (1, jR a1), (2, jI a2), (3, jI a3), (4, jI a4)] [] h57 Q
        refine wp_aload_n 1 dX6_writeString_60 rfl ?_
        refine wp_aload_n 0 dX6_writeString_61 rfl ?_
        have c7 := k.1
        replace k := k.2
        refine wp_getR (ci := 4) (j := 0) rfl (by decide) gX6_11 dX6_writeString_62 c7 rfl ?_
        refine wp_iload 4 dX6_writeString_65 rfl ?_
        have c8 := k.1
        replace k := k.2
        have c9 := k.1
        replace k := k.2
        have c10 := k.1
        replace k := k.2
        refine wp_aaload (n := 14) dX6_writeString_67 c8 (by decide) c9 c10 ?_
        have c11 := k.1
        replace k := k.2
        refine wp_callV (ci := 2) (y' := mX4_value) (st := [jR a1]) [] rfl rfl rfl fX4_value kX6_77 nX4_value dX6_writeString_68 (Nat.le_of_ble_eq_true rfl) c11 ?_
        refine jCall.mono k (fun o h68 k => ?_)
        obtain ⟨v68, e, k⟩ := k
        subst e
        show jWp (d + 1) mX6_writeString 71 [(0, jR a0), (1, jR a1), (2, jI a2), (3, jI a3), (4, jI a4)] [jR v68, jR a1] h68 Q
        have c12 := k.1
        replace k := k.2
        refine wp_callV (ci := 5) (y' := mX7_append) (st := []) [jR v68] rfl rfl rfl fX7_append kX6_104 nX7_append dX6_writeString_71 (Nat.le_of_ble_eq_true rfl) c12 ?_
        refine jCall.mono k (fun o h71 k => ?_)
        obtain ⟨e, k⟩ := k
        subst e
        show jWp (d + 1) mX6_writeString 74 [(0, jR a0), (1, jR a1), (2, jI a2), (3, jI a3), (4, jI a4)] [] h71 Q
        have c13 := k.1
        replace k := k.2
        refine wp_iinc 4 [1, 2, 3, 4, 0] (ls' := [(0, jR a0), (1, jR a1), (2, jI a2), (3, jI a3), (4, jI (a4 + 1))]) dX6_writeString_74 rfl c13 ⟨by decide, by decide⟩ (by decide) rfl ?_
        refine wp_goto 7 dX6_writeString_77 rfl ?_
        exact k
      · replace k := k.2 q
        refine wp_aload_n 0 dX6_writeString_28 rfl ?_
        refine wp_getR (ci := 4) (j := 0) rfl (by decide) gX6_11 dX6_writeString_29 c1 rfl ?_
        refine wp_iload 4 dX6_writeString_32 rfl ?_
        refine wp_iconst dX6_writeString_34 ⟨by decide, by decide⟩ ?_
        have c14 := k.1
        replace k := k.2
        refine wp_isub dX6_writeString_35 c14 ?_
        have c15 := k.1
        replace k := k.2
        have c16 := k.1
        replace k := k.2
        have c17 := k.1
        replace k := k.2
        refine wp_aaload (n := 14) dX6_writeString_36 c15 (by decide) c16 c17 ?_
        have c18 := k.1
        replace k := k.2
        refine wp_callV (ci := 2) (y' := mX4_isFixed) (st := []) [] rfl rfl rfl fX4_isFixed kX6_73 nX4_isFixed dX6_writeString_37 (Nat.le_of_ble_eq_true rfl) c18 ?_
        refine jCall.mono k (fun o h37 k => ?_)
        obtain ⟨v37, e, k⟩ := k
        subst e
        show jWp (d + 1) mX6_writeString 40 [(0, jR a0), (1, jR a1), (2, jI a2), (3, jI a3), (4, jI a4)] [jI v37] h37 Q
        refine wp_if_ne 49 dX6_writeString_40 rfl (fun q => ?_) (fun q => ?_)
        · replace k := k.1 q
          refine wp_aload_n 0 dX6_writeString_49 rfl ?_
          have c19 := k.1
          replace k := k.2
          refine wp_getR (ci := 4) (j := 0) rfl (by decide) gX6_11 dX6_writeString_50 c19 rfl ?_
          refine wp_iload 4 dX6_writeString_53 rfl ?_
          have c20 := k.1
          replace k := k.2
          have c21 := k.1
          replace k := k.2
          have c22 := k.1
          replace k := k.2
          refine wp_aaload (n := 14) dX6_writeString_55 c20 (by decide) c21 c22 ?_
          refine wp_aload_n 1 dX6_writeString_56 rfl ?_
          have c23 := k.1
          replace k := k.2
          refine wp_callV (ci := 2) (y' := mX4_writeAi) (st := []) [jR a1] rfl rfl rfl fX4_writeAi kX6_100 nX4_writeAi dX6_writeString_57 (Nat.le_of_ble_eq_true rfl) c23 ?_
          refine jCall.mono k (fun o h57_1 k => ?_)
          obtain ⟨e, k⟩ := k
          subst e
          show jWp (d + 1) mX6_writeString 60 [(0, jR a0), (1, jR a1), (2, jI a2), (3, jI a3), (4, jI a4)] [] h57_1 Q
          refine wp_aload_n 1 dX6_writeString_60 rfl ?_
          refine wp_aload_n 0 dX6_writeString_61 rfl ?_
          have c24 := k.1
          replace k := k.2
          refine wp_getR (ci := 4) (j := 0) rfl (by decide) gX6_11 dX6_writeString_62 c24 rfl ?_
          refine wp_iload 4 dX6_writeString_65 rfl ?_
          have c25 := k.1
          replace k := k.2
          have c26 := k.1
          replace k := k.2
          have c27 := k.1
          replace k := k.2
          refine wp_aaload (n := 14) dX6_writeString_67 c25 (by decide) c26 c27 ?_
          have c28 := k.1
          replace k := k.2
          refine wp_callV (ci := 2) (y' := mX4_value) (st := [jR a1]) [] rfl rfl rfl fX4_value kX6_77 nX4_value dX6_writeString_68 (Nat.le_of_ble_eq_true rfl) c28 ?_
          refine jCall.mono k (fun o h68_1 k => ?_)
          obtain ⟨v68_1, e, k⟩ := k
          subst e
          show jWp (d + 1) mX6_writeString 71 [(0, jR a0), (1, jR a1), (2, jI a2), (3, jI a3), (4, jI a4)] [jR v68_1, jR a1] h68_1 Q
          have c29 := k.1
          replace k := k.2
          refine wp_callV (ci := 5) (y' := mX7_append) (st := []) [jR v68_1] rfl rfl rfl fX7_append kX6_104 nX7_append dX6_writeString_71 (Nat.le_of_ble_eq_true rfl) c29 ?_
          refine jCall.mono k (fun o h71_1 k => ?_)
          obtain ⟨e, k⟩ := k
          subst e
          show jWp (d + 1) mX6_writeString 74 [(0, jR a0), (1, jR a1), (2, jI a2), (3, jI a3), (4, jI a4)] [] h71_1 Q
          have c30 := k.1
          replace k := k.2
          refine wp_iinc 4 [1, 2, 3, 4, 0] (ls' := [(0, jR a0), (1, jR a1), (2, jI a2), (3, jI a3), (4, jI (a4 + 1))]) dX6_writeString_74 rfl c30 ⟨by decide, by decide⟩ (by decide) rfl ?_
          refine wp_goto 7 dX6_writeString_77 rfl ?_
          exact k
        · replace k := k.2 q
          refine wp_aload_n 1 dX6_writeString_43 rfl ?_
          refine wp_bipush dX6_writeString_44 ⟨by decide, by decide⟩ ?_
          have c31 := k.1
          replace k := k.2
          refine wp_callV (ci := 5) (y' := mX7_put) (st := []) [jI 29] rfl rfl rfl fX7_put kX6_96 nX7_put dX6_writeString_46 (Nat.le_of_ble_eq_true rfl) c31 ?_
          refine jCall.mono k (fun o h46 k => ?_)
          obtain ⟨e, k⟩ := k
          subst e
          show jWp (d + 1) mX6_writeString 49 [(0, jR a0), (1, jR a1), (2, jI a2), (3, jI a3), (4, jI a4)] [] h46 Q
          refine wp_aload_n 0 dX6_writeString_49 rfl ?_
          have c32 := k.1
          replace k := k.2
          refine wp_getR (ci := 4) (j := 0) rfl (by decide) gX6_11 dX6_writeString_50 c32 rfl ?_
          refine wp_iload 4 dX6_writeString_53 rfl ?_
          have c33 := k.1
          replace k := k.2
          have c34 := k.1
          replace k := k.2
          have c35 := k.1
          replace k := k.2
          refine wp_aaload (n := 14) dX6_writeString_55 c33 (by decide) c34 c35 ?_
          refine wp_aload_n 1 dX6_writeString_56 rfl ?_
          have c36 := k.1
          replace k := k.2
          refine wp_callV (ci := 2) (y' := mX4_writeAi) (st := []) [jR a1] rfl rfl rfl fX4_writeAi kX6_100 nX4_writeAi dX6_writeString_57 (Nat.le_of_ble_eq_true rfl) c36 ?_
          refine jCall.mono k (fun o h57_2 k => ?_)
          obtain ⟨e, k⟩ := k
          subst e
          show jWp (d + 1) mX6_writeString 60 [(0, jR a0), (1, jR a1), (2, jI a2), (3, jI a3), (4, jI a4)] [] h57_2 Q
          refine wp_aload_n 1 dX6_writeString_60 rfl ?_
          refine wp_aload_n 0 dX6_writeString_61 rfl ?_
          have c37 := k.1
          replace k := k.2
          refine wp_getR (ci := 4) (j := 0) rfl (by decide) gX6_11 dX6_writeString_62 c37 rfl ?_
          refine wp_iload 4 dX6_writeString_65 rfl ?_
          have c38 := k.1
          replace k := k.2
          have c39 := k.1
          replace k := k.2
          have c40 := k.1
          replace k := k.2
          refine wp_aaload (n := 14) dX6_writeString_67 c38 (by decide) c39 c40 ?_
          have c41 := k.1
          replace k := k.2
          refine wp_callV (ci := 2) (y' := mX4_value) (st := [jR a1]) [] rfl rfl rfl fX4_value kX6_77 nX4_value dX6_writeString_68 (Nat.le_of_ble_eq_true rfl) c41 ?_
          refine jCall.mono k (fun o h68_2 k => ?_)
          obtain ⟨v68_2, e, k⟩ := k
          subst e
          show jWp (d + 1) mX6_writeString 71 [(0, jR a0), (1, jR a1), (2, jI a2), (3, jI a3), (4, jI a4)] [jR v68_2, jR a1] h68_2 Q
          have c42 := k.1
          replace k := k.2
          refine wp_callV (ci := 5) (y' := mX7_append) (st := []) [jR v68_2] rfl rfl rfl fX7_append kX6_104 nX7_append dX6_writeString_71 (Nat.le_of_ble_eq_true rfl) c42 ?_
          refine jCall.mono k (fun o h71_2 k => ?_)
          obtain ⟨e, k⟩ := k
          subst e
          show jWp (d + 1) mX6_writeString 74 [(0, jR a0), (1, jR a1), (2, jI a2), (3, jI a3), (4, jI a4)] [] h71_2 Q
          have c43 := k.1
          replace k := k.2
          refine wp_iinc 4 [1, 2, 3, 4, 0] (ls' := [(0, jR a0), (1, jR a1), (2, jI a2), (3, jI a3), (4, jI (a4 + 1))]) dX6_writeString_74 rfl c43 ⟨by decide, by decide⟩ (by decide) rfl ?_
          refine wp_goto 7 dX6_writeString_77 rfl ?_
          exact k
theorem bX6_writeInBrackets {d : Nat} {h : jH} {Q : jO → jH → Prop} {a0 : Nat} {a1 : Nat} (k : jOK h → jWp (d + 1) mX6_writeInBrackets 2 [(0, jR a0), (1, jR a1), (2, jI 0)] [] h Q) : jCall (d + 1) mX6_writeInBrackets [jR a0, jR a1] h Q := by
  refine jCall_of plX6 (Nat.le_of_ble_eq_true rfl) ?_
  show jWp (d + 1) mX6_writeInBrackets 0 [(0, jR a0), (1, jR a1)] [] h Q
  refine jw_ok (fun ok q => ?_)
  replace k := k ok 
  refine wp_iconst dX6_writeInBrackets_0 ⟨by decide, by decide⟩ ?_
  refine wp_istore_n [1, 2, 0] (ls' := [(0, jR a0), (1, jR a1), (2, jI 0)]) dX6_writeInBrackets_1 (by decide) rfl ?_
  exact k
theorem bX6_writeInBrackets_2 {d : Nat} {h : jH} {Q : jO → jH → Prop} {a0 : Nat} {a1 : Nat} {a2 : Int} (k : jOK h → j32 a2 → hK h a0 = 5 ∧ (j32 (hI h 402 a0) → (((hI h 402 a0) ≤ a2 → Q (.inl none) h) ∧ (¬ ((hI h 402 a0) ≤ a2) → hK h (hR h 400 a0) = 14 ∧ 0 ≤ a2 ∧ a2 < hN h (hR h 400 a0) ∧ hK h (hQ h (hR h 400 a0) a2) = 3 ∧ jCall d mX4_writeInBrackets [jR (hQ h (hR h 400 a0) a2), jR a1] h (fun o h17 => o = .inl none ∧ j32 (a2 + 1) ∧ jWp (d + 1) mX6_writeInBrackets 2 [(0, jR a0), (1, jR a1), (2, jI (a2 + 1))] [] h17 Q))))) : jWp (d + 1) mX6_writeInBrackets 2 [(0, jR a0), (1, jR a1), (2, jI a2)] [] h Q := by
  refine jw_ok (fun ok q => ?_)
  replace k := k ok (q _ (.tail _ (.tail _ (.head _))))
  refine wp_iload_n 2 dX6_writeInBrackets_2 rfl ?_
  refine wp_aload_n 0 dX6_writeInBrackets_3 rfl ?_
  have c1 := k.1
  replace k := k.2
  refine wp_getI (ci := 4) (j := 2) rfl (by decide) gX6_21 dX6_writeInBrackets_4 c1 rfl (fun q => ?_)
  have f2 := q
  replace k := k q
  refine wp_icmp_ge 26 dX6_writeInBrackets_7 rfl (fun q => ?_) (fun q => ?_)
  · replace k := k.1 q
    exact wp_return dX6_writeInBrackets_26 rfl k
  · replace k := k.2 q
    refine wp_aload_n 0 dX6_writeInBrackets_10 rfl ?_
    refine wp_getR (ci := 4) (j := 0) rfl (by decide) gX6_11 dX6_writeInBrackets_11 c1 rfl ?_
    refine wp_iload_n 2 dX6_writeInBrackets_14 rfl ?_
    have c3 := k.1
    replace k := k.2
    have c4 := k.1
    replace k := k.2
    have c5 := k.1
    replace k := k.2
    refine wp_aaload (n := 14) dX6_writeInBrackets_15 c3 (by decide) c4 c5 ?_
    refine wp_aload_n 1 dX6_writeInBrackets_16 rfl ?_
    have c6 := k.1
    replace k := k.2
    refine wp_callV (ci := 2) (y' := mX4_writeInBrackets) (st := []) [jR a1] rfl rfl rfl fX4_writeInBrackets kX6_107 nX4_writeInBrackets dX6_writeInBrackets_17 (Nat.le_of_ble_eq_true rfl) c6 ?_
    refine jCall.mono k (fun o h17 k => ?_)
    obtain ⟨e, k⟩ := k
    subst e
    show jWp (d + 1) mX6_writeInBrackets 20 [(0, jR a0), (1, jR a1), (2, jI a2)] [] h17 Q
    have c7 := k.1
    replace k := k.2
    refine wp_iinc 2 [1, 2, 0] (ls' := [(0, jR a0), (1, jR a1), (2, jI (a2 + 1))]) dX6_writeInBrackets_20 rfl c7 ⟨by decide, by decide⟩ (by decide) rfl ?_
    refine wp_goto 2 dX6_writeInBrackets_23 rfl ?_
    exact k
