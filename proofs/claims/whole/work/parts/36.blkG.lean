/-! BLOCKS (made by wip/whole/gen/genblk.py) -/
theorem bX11_thrown {d : Nat} {h : jH} {Q : jO → jH → Prop} {a0 : Nat} (k : jOK h → hK h a0 = 9 ∧ (j32 (hI h 812 a0) → Q (.inl (some (jI (hI h 812 a0)))) h)) : jCall d mX11_thrown [jR a0] h Q := by
  refine jCall_of plX11 (Nat.le_of_ble_eq_true rfl) ?_
  show jWp d mX11_thrown 0 [(0, jR a0)] [] h Q
  refine jw_ok (fun ok q => ?_)
  replace k := k ok 
  refine wp_aload_n 0 dX11_thrown_0 rfl ?_
  have c1 := k.1
  replace k := k.2
  refine wp_getI (ci := 8) (j := 12) rfl (by decide) gX11_48 dX11_thrown_1 c1 rfl (fun q => ?_)
  have f2 := q
  replace k := k q
  exact wp_iret dX11_thrown_4 rfl k
theorem bX11_throwing {d : Nat} {h : jH} {Q : jO → jH → Prop} {a0 : Nat} {a1 : Int} (k : jOK h → j32 a1 → hK h a0 = 9 ∧ Q (.inl (some (jI 1))) (sI h 812 a0 a1)) : jCall d mX11_throwing [jR a0, jI a1] h Q := by
  refine jCall_of plX11 (Nat.le_of_ble_eq_true rfl) ?_
  show jWp d mX11_throwing 0 [(0, jR a0), (1, jI a1)] [] h Q
  refine jw_ok (fun ok q => ?_)
  replace k := k ok (q _ (.tail _ (.head _)))
  refine wp_aload_n 0 dX11_throwing_0 rfl ?_
  refine wp_iload_n 1 dX11_throwing_1 rfl ?_
  have c1 := k.1
  replace k := k.2
  refine wp_putI (ci := 8) (j := 12) rfl (by decide) gX11_48 dX11_throwing_2 c1 (Or.inl rfl) rfl ?_
  refine wp_iconst dX11_throwing_5 ⟨by decide, by decide⟩ ?_
  exact wp_zreturn dX11_throwing_6 rfl (by decide) (by decide) k
theorem bX11_isDigit {d : Nat} {h : jH} {Q : jO → jH → Prop} {a0 : Int} (k : jOK h → j32 a0 → ((a0 < 48 → Q (.inl (some (jI 0))) h) ∧ (¬ (a0 < 48) → ((57 < a0 → Q (.inl (some (jI 0))) h) ∧ (¬ (57 < a0) → Q (.inl (some (jI 1))) h))))) : jCall d mX11_isDigit [jI a0] h Q := by
  refine jCall_of plX11 (Nat.le_of_ble_eq_true rfl) ?_
  show jWp d mX11_isDigit 0 [(0, jI a0)] [] h Q
  refine jw_ok (fun ok q => ?_)
  replace k := k ok (q _ (.head _))
  refine wp_iload_n 0 dX11_isDigit_0 rfl ?_
  refine wp_bipush dX11_isDigit_1 ⟨by decide, by decide⟩ ?_
  refine wp_icmp_lt 16 dX11_isDigit_3 rfl (fun q => ?_) (fun q => ?_)
  · replace k := k.1 q
    refine wp_iconst dX11_isDigit_16 ⟨by decide, by decide⟩ ?_
    exact wp_zreturn dX11_isDigit_17 rfl (by decide) (by decide) k
  · replace k := k.2 q
    refine wp_iload_n 0 dX11_isDigit_6 rfl ?_
    refine wp_bipush dX11_isDigit_7 ⟨by decide, by decide⟩ ?_
    refine wp_icmp_gt 16 dX11_isDigit_9 rfl (fun q => ?_) (fun q => ?_)
    · replace k := k.1 q
      refine wp_iconst dX11_isDigit_16 ⟨by decide, by decide⟩ ?_
      exact wp_zreturn dX11_isDigit_17 rfl (by decide) (by decide) k
    · replace k := k.2 q
      refine wp_iconst dX11_isDigit_12 ⟨by decide, by decide⟩ ?_
      refine wp_goto 17 dX11_isDigit_13 rfl ?_
      exact wp_zreturn dX11_isDigit_17 rfl (by decide) (by decide) k
theorem bX11_tables {d : Nat} {h : jH} {Q : jO → jH → Prop} {a0 : Nat} (k : jOK h → jWp (d + 1) mX11_tables 2 [(0, jR a0), (1, jI 0)] [] h Q) : jCall (d + 1) mX11_tables [jR a0] h Q := by
  refine jCall_of plX11 (Nat.le_of_ble_eq_true rfl) ?_
  show jWp (d + 1) mX11_tables 0 [(0, jR a0)] [] h Q
  refine jw_ok (fun ok q => ?_)
  replace k := k ok 
  refine wp_iconst dX11_tables_0 ⟨by decide, by decide⟩ ?_
  refine wp_istore_n [1, 0] (ls' := [(0, jR a0), (1, jI 0)]) dX11_tables_1 (by decide) rfl ?_
  exact k
theorem bX11_tables_2 {d : Nat} {h : jH} {Q : jO → jH → Prop} {a0 : Nat} {a1 : Int} (k : jOK h → j32 a1 → hK h a0 = 9 ∧ hK h (hR h 800 a0) = 10 ∧ (0 ≤ (hN h (hR h 800 a0)) → (((hN h (hR h 800 a0)) ≤ a1 → Q (.inl none) h) ∧ (¬ ((hN h (hR h 800 a0)) ≤ a1) → 0 ≤ a1 ∧ a1 < hN h (hR h 800 a0) ∧ (j32 (hA h (hR h 800 a0) a1) → j32 (a1 + 1) ∧ 0 ≤ (a1 + 1) ∧ (a1 + 1) < hN h (hR h 800 a0) ∧ (j32 (hA h (hR h 800 a0) (a1 + 1)) → j32 (a1 + 2) ∧ jWp (d + 1) mX11_tables 33 [(0, jR a0), (1, jI (a1 + 2)), (2, jI (hA h (hR h 800 a0) a1)), (3, jI (hA h (hR h 800 a0) (a1 + 1))), (4, jI 0)] [] h Q)))))) : jWp (d + 1) mX11_tables 2 [(0, jR a0), (1, jI a1)] [] h Q := by
  refine jw_ok (fun ok q => ?_)
  replace k := k ok (q _ (.tail _ (.head _)))
  refine wp_iload_n 1 dX11_tables_2 rfl ?_
  refine wp_aload_n 0 dX11_tables_3 rfl ?_
  have c1 := k.1
  replace k := k.2
  refine wp_getR (ci := 8) (j := 0) rfl (by decide) gX11_7 dX11_tables_4 c1 rfl ?_
  have c2 := k.1
  replace k := k.2
  refine wp_alen (n := 10) dX11_tables_7 c2 ⟨by decide, by decide⟩ (fun q q9 => ?_)
  have f3 := q
  replace k := k q
  refine wp_icmp_ge 189 dX11_tables_8 rfl (fun q => ?_) (fun q => ?_)
  · replace k := k.1 q
    exact wp_return dX11_tables_189 rfl k
  · replace k := k.2 q
    refine wp_aload_n 0 dX11_tables_11 rfl ?_
    refine wp_getR (ci := 8) (j := 0) rfl (by decide) gX11_7 dX11_tables_12 c1 rfl ?_
    refine wp_iload_n 1 dX11_tables_15 rfl ?_
    have c4 := k.1
    replace k := k.2
    have c5 := k.1
    replace k := k.2
    refine wp_iaload dX11_tables_16 c2 c4 c5 (fun q => ?_)
    have f6 := q
    replace k := k q
    refine wp_istore_n [1, 2, 0] (ls' := [(0, jR a0), (1, jI a1), (2, jI (hA h (hR h 800 a0) a1))]) dX11_tables_17 (by decide) rfl ?_
    refine wp_aload_n 0 dX11_tables_18 rfl ?_
    refine wp_getR (ci := 8) (j := 0) rfl (by decide) gX11_7 dX11_tables_19 c1 rfl ?_
    refine wp_iload_n 1 dX11_tables_22 rfl ?_
    refine wp_iconst dX11_tables_23 ⟨by decide, by decide⟩ ?_
    have c7 := k.1
    replace k := k.2
    refine wp_iadd dX11_tables_24 c7 ?_
    have c8 := k.1
    replace k := k.2
    have c9 := k.1
    replace k := k.2
    refine wp_iaload dX11_tables_25 c2 c8 c9 (fun q => ?_)
    have f10 := q
    replace k := k q
    refine wp_istore_n [1, 2, 3, 0] (ls' := [(0, jR a0), (1, jI a1), (2, jI (hA h (hR h 800 a0) a1)), (3, jI (hA h (hR h 800 a0) (a1 + 1)))]) dX11_tables_26 (by decide) rfl ?_
    have c11 := k.1
    replace k := k.2
    refine wp_iinc 1 [1, 0, 2, 3] (ls' := [(0, jR a0), (1, jI (a1 + 2)), (2, jI (hA h (hR h 800 a0) a1)), (3, jI (hA h (hR h 800 a0) (a1 + 1)))]) dX11_tables_27 rfl c11 ⟨by decide, by decide⟩ (by decide) rfl ?_
    refine wp_iconst dX11_tables_30 ⟨by decide, by decide⟩ ?_
    refine wp_istore [1, 2, 3, 4, 0] (ls' := [(0, jR a0), (1, jI (a1 + 2)), (2, jI (hA h (hR h 800 a0) a1)), (3, jI (hA h (hR h 800 a0) (a1 + 1))), (4, jI 0)]) dX11_tables_31 (by decide) rfl ?_
    exact k
theorem bX11_tables_33 {d : Nat} {h : jH} {Q : jO → jH → Prop} {a0 : Nat} {a1 : Int} {a2 : Int} {a3 : Int} {a4 : Int} (k : jOK h → j32 a1 → j32 a2 → j32 a3 → j32 a4 → ((a2 ≤ a4 → jWp (d + 1) mX11_tables 86 [(0, jR a0), (1, jI a1), (3, jI a3), (4, jI 0)] [] h Q) ∧ (¬ (a2 ≤ a4) → hK h a0 = 9 ∧ hK h (hR h 800 a0) = 10 ∧ 0 ≤ a1 ∧ a1 < hN h (hR h 800 a0) ∧ (j32 (hA h (hR h 800 a0) a1) → j32 (a1 + 1) ∧ 0 ≤ (a1 + 1) ∧ (a1 + 1) < hN h (hR h 800 a0) ∧ (j32 (hA h (hR h 800 a0) (a1 + 1)) → j32 (a1 + 2) ∧ 0 ≤ (a1 + 2) ∧ (a1 + 2) < hN h (hR h 800 a0) ∧ (j32 (hA h (hR h 800 a0) (a1 + 2)) → j32 (a1 + 3) ∧ 0 ≤ (a1 + 3) ∧ (a1 + 3) < hN h (hR h 800 a0) ∧ (j32 (hA h (hR h 800 a0) (a1 + 3)) → jCall d mX11_listed [jR a0, jI (hA h (hR h 800 a0) a1), jI (hA h (hR h 800 a0) (a1 + 1)), jI (hA h (hR h 800 a0) (a1 + 2)), jI (hA h (hR h 800 a0) (a1 + 3)), jI a3] h (fun o h71 => o = .inl none ∧ j32 (a1 + 4) ∧ j32 (a4 + 1) ∧ jWp (d + 1) mX11_tables 33 [(0, jR a0), (1, jI (a1 + 4)), (2, jI a2), (3, jI a3), (4, jI (a4 + 1))] [] h71 Q)))))))) : jWp (d + 1) mX11_tables 33 [(0, jR a0), (1, jI a1), (2, jI a2), (3, jI a3), (4, jI a4)] [] h Q := by
  refine jw_ok (fun ok q => ?_)
  replace k := k ok (q _ (.tail _ (.head _))) (q _ (.tail _ (.tail _ (.head _)))) (q _ (.tail _ (.tail _ (.tail _ (.head _))))) (q _ (.tail _ (.tail _ (.tail _ (.tail _ (.head _))))))
  refine wp_iload 4 dX11_tables_33 rfl ?_
  refine wp_iload_n 2 dX11_tables_35 rfl ?_
  refine wp_icmp_ge 83 dX11_tables_36 rfl (fun q => ?_) (fun q => ?_)
  · replace k := k.1 q
    refine wp_iconst dX11_tables_83 ⟨by decide, by decide⟩ ?_
    refine wp_istore [1, 2, 4, 0] (ls' := [(0, jR a0), (1, jI a1), (3, jI a3), (4, jI 0)]) dX11_tables_84 (by decide) rfl ?_
    exact k
  · replace k := k.2 q
    refine wp_aload_n 0 dX11_tables_39 rfl ?_
    refine wp_aload_n 0 dX11_tables_40 rfl ?_
    have c1 := k.1
    replace k := k.2
    refine wp_getR (ci := 8) (j := 0) rfl (by decide) gX11_7 dX11_tables_41 c1 rfl ?_
    refine wp_iload_n 1 dX11_tables_44 rfl ?_
    have c2 := k.1
    replace k := k.2
    have c3 := k.1
    replace k := k.2
    have c4 := k.1
    replace k := k.2
    refine wp_iaload dX11_tables_45 c2 c3 c4 (fun q => ?_)
    have f5 := q
    replace k := k q
    refine wp_aload_n 0 dX11_tables_46 rfl ?_
    refine wp_getR (ci := 8) (j := 0) rfl (by decide) gX11_7 dX11_tables_47 c1 rfl ?_
    refine wp_iload_n 1 dX11_tables_50 rfl ?_
    refine wp_iconst dX11_tables_51 ⟨by decide, by decide⟩ ?_
    have c6 := k.1
    replace k := k.2
    refine wp_iadd dX11_tables_52 c6 ?_
    have c7 := k.1
    replace k := k.2
    have c8 := k.1
    replace k := k.2
    refine wp_iaload dX11_tables_53 c2 c7 c8 (fun q => ?_)
    have f9 := q
    replace k := k q
    refine wp_aload_n 0 dX11_tables_54 rfl ?_
    refine wp_getR (ci := 8) (j := 0) rfl (by decide) gX11_7 dX11_tables_55 c1 rfl ?_
    refine wp_iload_n 1 dX11_tables_58 rfl ?_
    refine wp_iconst dX11_tables_59 ⟨by decide, by decide⟩ ?_
    have c10 := k.1
    replace k := k.2
    refine wp_iadd dX11_tables_60 c10 ?_
    have c11 := k.1
    replace k := k.2
    have c12 := k.1
    replace k := k.2
    refine wp_iaload dX11_tables_61 c2 c11 c12 (fun q => ?_)
    have f13 := q
    replace k := k q
    refine wp_aload_n 0 dX11_tables_62 rfl ?_
    refine wp_getR (ci := 8) (j := 0) rfl (by decide) gX11_7 dX11_tables_63 c1 rfl ?_
    refine wp_iload_n 1 dX11_tables_66 rfl ?_
    refine wp_iconst dX11_tables_67 ⟨by decide, by decide⟩ ?_
    have c14 := k.1
    replace k := k.2
    refine wp_iadd dX11_tables_68 c14 ?_
    have c15 := k.1
    replace k := k.2
    have c16 := k.1
    replace k := k.2
    refine wp_iaload dX11_tables_69 c2 c15 c16 (fun q => ?_)
    have f17 := q
    replace k := k q
    refine wp_iload_n 3 dX11_tables_70 rfl ?_
    refine wp_callV (ci := 8) (y' := mX11_listed) (st := []) [jI (hA h (hR h 800 a0) a1), jI (hA h (hR h 800 a0) (a1 + 1)), jI (hA h (hR h 800 a0) (a1 + 2)), jI (hA h (hR h 800 a0) (a1 + 3)), jI a3] rfl rfl rfl fX11_listed kX11_284 nX11_listed dX11_tables_71 (Nat.le_of_ble_eq_true rfl) c1 ?_
    refine jCall.mono k (fun o h71 k => ?_)
    obtain ⟨e, k⟩ := k
    subst e
    show jWp (d + 1) mX11_tables 74 [(0, jR a0), (1, jI a1), (2, jI a2), (3, jI a3), (4, jI a4)] [] h71 Q
    have c18 := k.1
    replace k := k.2
    refine wp_iinc 1 [1, 0, 2, 3, 4] (ls' := [(0, jR a0), (1, jI (a1 + 4)), (2, jI a2), (3, jI a3), (4, jI a4)]) dX11_tables_74 rfl c18 ⟨by decide, by decide⟩ (by decide) rfl ?_
    have c19 := k.1
    replace k := k.2
    refine wp_iinc 4 [1, 2, 3, 4, 0] (ls' := [(0, jR a0), (1, jI (a1 + 4)), (2, jI a2), (3, jI a3), (4, jI (a4 + 1))]) dX11_tables_77 rfl c19 ⟨by decide, by decide⟩ (by decide) rfl ?_
    refine wp_goto 33 dX11_tables_80 rfl ?_
    exact k
theorem bX11_tables_86 {d : Nat} {h : jH} {Q : jO → jH → Prop} {a0 : Nat} {a1 : Int} {a3 : Int} {a4 : Int} (k : jOK h → j32 a1 → j32 a3 → j32 a4 → ((a3 ≤ a4 → jWp (d + 1) mX11_tables 2 [(0, jR a0), (1, jI a1)] [] h Q) ∧ (¬ (a3 ≤ a4) → hK h a0 = 9 ∧ (j32 (hI h 811 a0) → hK h (hR h 800 a0) = 10 ∧ 0 ≤ a1 ∧ a1 < hN h (hR h 800 a0) ∧ (j32 (hA h (hR h 800 a0) a1) → hK h (hR h 807 a0) = 10 ∧ 0 ≤ (hI h 811 a0) ∧ (hI h 811 a0) < hN h (hR h 807 a0) ∧ j32 (a1 + 1) ∧ 0 ≤ (a1 + 1) ∧ (a1 + 1) < hN h (hR h 800 a0) ∧ (j32 (hA (sA h (hR h 807 a0) (hI h 811 a0) (hA h (hR h 800 a0) a1)) (hR h 800 a0) (a1 + 1)) → hK h (hR h 808 a0) = 10 ∧ (hI h 811 a0) < hN h (hR h 808 a0) ∧ j32 (a1 + 2) ∧ 0 ≤ (a1 + 2) ∧ (a1 + 2) < hN h (hR h 800 a0) ∧ (j32 (hA (sA (sA h (hR h 807 a0) (hI h 811 a0) (hA h (hR h 800 a0) a1)) (hR h 808 a0) (hI h 811 a0) (hA (sA h (hR h 807 a0) (hI h 811 a0) (hA h (hR h 800 a0) a1)) (hR h 800 a0) (a1 + 1))) (hR h 800 a0) (a1 + 2)) → hK h (hR h 809 a0) = 10 ∧ (hI h 811 a0) < hN h (hR h 809 a0) ∧ j32 (a1 + 3) ∧ 0 ≤ (a1 + 3) ∧ (a1 + 3) < hN h (hR h 800 a0) ∧ (j32 (hA (sA (sA (sA h (hR h 807 a0) (hI h 811 a0) (hA h (hR h 800 a0) a1)) (hR h 808 a0) (hI h 811 a0) (hA (sA h (hR h 807 a0) (hI h 811 a0) (hA h (hR h 800 a0) a1)) (hR h 800 a0) (a1 + 1))) (hR h 809 a0) (hI h 811 a0) (hA (sA (sA h (hR h 807 a0) (hI h 811 a0) (hA h (hR h 800 a0) a1)) (hR h 808 a0) (hI h 811 a0) (hA (sA h (hR h 807 a0) (hI h 811 a0) (hA h (hR h 800 a0) a1)) (hR h 800 a0) (a1 + 1))) (hR h 800 a0) (a1 + 2))) (hR h 800 a0) (a1 + 3)) → (((hA (sA (sA (sA h (hR h 807 a0) (hI h 811 a0) (hA h (hR h 800 a0) a1)) (hR h 808 a0) (hI h 811 a0) (hA (sA h (hR h 807 a0) (hI h 811 a0) (hA h (hR h 800 a0) a1)) (hR h 800 a0) (a1 + 1))) (hR h 809 a0) (hI h 811 a0) (hA (sA (sA h (hR h 807 a0) (hI h 811 a0) (hA h (hR h 800 a0) a1)) (hR h 808 a0) (hI h 811 a0) (hA (sA h (hR h 807 a0) (hI h 811 a0) (hA h (hR h 800 a0) a1)) (hR h 800 a0) (a1 + 1))) (hR h 800 a0) (a1 + 2))) (hR h 800 a0) (a1 + 3)) ≠ 1 → hK h (hR h 810 a0) = 12 ∧ (hI h 811 a0) < hN h (hR h 810 a0) ∧ j32 ((hI h 811 a0) + 1) ∧ j32 (a1 + 4) ∧ j32 (a4 + 1) ∧ jWp (d + 1) mX11_tables 86 [(0, jR a0), (1, jI (a1 + 4)), (3, jI a3), (4, jI (a4 + 1))] [] (sI (sA (sA (sA (sA h (hR h 807 a0) (hI h 811 a0) (hA h (hR h 800 a0) a1)) (hR h 808 a0) (hI h 811 a0) (hA (sA h (hR h 807 a0) (hI h 811 a0) (hA h (hR h 800 a0) a1)) (hR h 800 a0) (a1 + 1))) (hR h 809 a0) (hI h 811 a0) (hA (sA (sA h (hR h 807 a0) (hI h 811 a0) (hA h (hR h 800 a0) a1)) (hR h 808 a0) (hI h 811 a0) (hA (sA h (hR h 807 a0) (hI h 811 a0) (hA h (hR h 800 a0) a1)) (hR h 800 a0) (a1 + 1))) (hR h 800 a0) (a1 + 2))) (hR h 810 a0) (hI h 811 a0) 0) 811 a0 ((hI h 811 a0) + 1)) Q) ∧ ((hA (sA (sA (sA h (hR h 807 a0) (hI h 811 a0) (hA h (hR h 800 a0) a1)) (hR h 808 a0) (hI h 811 a0) (hA (sA h (hR h 807 a0) (hI h 811 a0) (hA h (hR h 800 a0) a1)) (hR h 800 a0) (a1 + 1))) (hR h 809 a0) (hI h 811 a0) (hA (sA (sA h (hR h 807 a0) (hI h 811 a0) (hA h (hR h 800 a0) a1)) (hR h 808 a0) (hI h 811 a0) (hA (sA h (hR h 807 a0) (hI h 811 a0) (hA h (hR h 800 a0) a1)) (hR h 800 a0) (a1 + 1))) (hR h 800 a0) (a1 + 2))) (hR h 800 a0) (a1 + 3)) = 1 → hK h (hR h 810 a0) = 12 ∧ (hI h 811 a0) < hN h (hR h 810 a0) ∧ j32 ((hI h 811 a0) + 1) ∧ j32 (a1 + 4) ∧ j32 (a4 + 1) ∧ jWp (d + 1) mX11_tables 86 [(0, jR a0), (1, jI (a1 + 4)), (3, jI a3), (4, jI (a4 + 1))] [] (sI (sA (sA (sA (sA h (hR h 807 a0) (hI h 811 a0) (hA h (hR h 800 a0) a1)) (hR h 808 a0) (hI h 811 a0) (hA (sA h (hR h 807 a0) (hI h 811 a0) (hA h (hR h 800 a0) a1)) (hR h 800 a0) (a1 + 1))) (hR h 809 a0) (hI h 811 a0) (hA (sA (sA h (hR h 807 a0) (hI h 811 a0) (hA h (hR h 800 a0) a1)) (hR h 808 a0) (hI h 811 a0) (hA (sA h (hR h 807 a0) (hI h 811 a0) (hA h (hR h 800 a0) a1)) (hR h 800 a0) (a1 + 1))) (hR h 800 a0) (a1 + 2))) (hR h 810 a0) (hI h 811 a0) 1) 811 a0 ((hI h 811 a0) + 1)) Q)))))))))) : jWp (d + 1) mX11_tables 86 [(0, jR a0), (1, jI a1), (3, jI a3), (4, jI a4)] [] h Q := by
  refine jw_ok (fun ok q => ?_)
  replace k := k ok (q _ (.tail _ (.head _))) (q _ (.tail _ (.tail _ (.head _)))) (q _ (.tail _ (.tail _ (.tail _ (.head _)))))
  refine wp_iload 3 dX11_tables_86 rfl ?_
  refine wp_iload_n 2 dX11_tables_88 rfl ?_
  refine wp_icmp_ge 186 dX11_tables_89 rfl (fun q => ?_) (fun q => ?_)
  · replace k := k.1 q
    refine wp_goto 2 dX11_tables_186 rfl ?_
    refine wp_sub [0, 1] (ls' := [(0, jR a0), (1, jI a1)]) rfl ?_
    exact k
  · replace k := k.2 q
    refine wp_aload_n 0 dX11_tables_92 rfl ?_
    have c1 := k.1
    replace k := k.2
    refine wp_getR (ci := 8) (j := 7) rfl (by decide) gX11_32 dX11_tables_93 c1 rfl ?_
    refine wp_aload_n 0 dX11_tables_96 rfl ?_
    refine wp_getI (ci := 8) (j := 11) rfl (by decide) gX11_45 dX11_tables_97 c1 rfl (fun q => ?_)
    have f2 := q
    replace k := k q
    refine wp_aload_n 0 dX11_tables_100 rfl ?_
    refine wp_getR (ci := 8) (j := 0) rfl (by decide) gX11_7 dX11_tables_101 c1 rfl ?_
    refine wp_iload_n 1 dX11_tables_104 rfl ?_
    have c3 := k.1
    replace k := k.2
    have c4 := k.1
    replace k := k.2
    have c5 := k.1
    replace k := k.2
    refine wp_iaload dX11_tables_105 c3 c4 c5 (fun q => ?_)
    have f6 := q
    replace k := k q
    have c7 := k.1
    replace k := k.2
    have c8 := k.1
    replace k := k.2
    have c9 := k.1
    replace k := k.2
    refine wp_iastore dX11_tables_106 c7 c8 c9 ?_
    refine wp_aload_n 0 dX11_tables_107 rfl ?_
    refine wp_getR (ci := 8) (j := 8) rfl (by decide) gX11_35 dX11_tables_108 c1 rfl ?_
    refine wp_aload_n 0 dX11_tables_111 rfl ?_
    refine wp_getI (ci := 8) (j := 11) rfl (by decide) gX11_45 dX11_tables_112 c1 rfl (fun q => ?_)
    refine wp_aload_n 0 dX11_tables_115 rfl ?_
    refine wp_getR (ci := 8) (j := 0) rfl (by decide) gX11_7 dX11_tables_116 c1 rfl ?_
    refine wp_iload_n 1 dX11_tables_119 rfl ?_
    refine wp_iconst dX11_tables_120 ⟨by decide, by decide⟩ ?_
    have c10 := k.1
    replace k := k.2
    refine wp_iadd dX11_tables_121 c10 ?_
    have c11 := k.1
    replace k := k.2
    have c12 := k.1
    replace k := k.2
    refine wp_iaload dX11_tables_122 c3 c11 c12 (fun q => ?_)
    have f13 := q
    replace k := k q
    have c14 := k.1
    replace k := k.2
    have c15 := k.1
    replace k := k.2
    refine wp_iastore dX11_tables_123 c14 c8 c15 ?_
    refine wp_aload_n 0 dX11_tables_124 rfl ?_
    refine wp_getR (ci := 8) (j := 9) rfl (by decide) gX11_38 dX11_tables_125 c1 rfl ?_
    refine wp_aload_n 0 dX11_tables_128 rfl ?_
    refine wp_getI (ci := 8) (j := 11) rfl (by decide) gX11_45 dX11_tables_129 c1 rfl (fun q => ?_)
    refine wp_aload_n 0 dX11_tables_132 rfl ?_
    refine wp_getR (ci := 8) (j := 0) rfl (by decide) gX11_7 dX11_tables_133 c1 rfl ?_
    refine wp_iload_n 1 dX11_tables_136 rfl ?_
    refine wp_iconst dX11_tables_137 ⟨by decide, by decide⟩ ?_
    have c16 := k.1
    replace k := k.2
    refine wp_iadd dX11_tables_138 c16 ?_
    have c17 := k.1
    replace k := k.2
    have c18 := k.1
    replace k := k.2
    refine wp_iaload dX11_tables_139 c3 c17 c18 (fun q => ?_)
    have f19 := q
    replace k := k q
    have c20 := k.1
    replace k := k.2
    have c21 := k.1
    replace k := k.2
    refine wp_iastore dX11_tables_140 c20 c8 c21 ?_
    refine wp_aload_n 0 dX11_tables_141 rfl ?_
    refine wp_getR (ci := 8) (j := 10) rfl (by decide) gX11_41 dX11_tables_142 c1 rfl ?_
    refine wp_aload_n 0 dX11_tables_145 rfl ?_
    refine wp_getI (ci := 8) (j := 11) rfl (by decide) gX11_45 dX11_tables_146 c1 rfl (fun q => ?_)
    refine wp_aload_n 0 dX11_tables_149 rfl ?_
    refine wp_getR (ci := 8) (j := 0) rfl (by decide) gX11_7 dX11_tables_150 c1 rfl ?_
    refine wp_iload_n 1 dX11_tables_153 rfl ?_
    refine wp_iconst dX11_tables_154 ⟨by decide, by decide⟩ ?_
    have c22 := k.1
    replace k := k.2
    refine wp_iadd dX11_tables_155 c22 ?_
    have c23 := k.1
    replace k := k.2
    have c24 := k.1
    replace k := k.2
    refine wp_iaload dX11_tables_156 c3 c23 c24 (fun q => ?_)
    have f25 := q
    replace k := k q
    refine wp_iconst dX11_tables_157 ⟨by decide, by decide⟩ ?_
    refine wp_icmp_ne 165 dX11_tables_158 rfl (fun q => ?_) (fun q => ?_)
    · replace k := k.1 q
      refine wp_iconst dX11_tables_165 ⟨by decide, by decide⟩ ?_
      have c26 := k.1
      replace k := k.2
      have c27 := k.1
      replace k := k.2
      refine wp_zastore dX11_tables_166 c26 c8 c27 ⟨by decide, by decide⟩ ?_
      refine wp_aload_n 0 dX11_tables_167 rfl ?_
      refine wp_dup dX11_tables_168 rfl ?_
      refine wp_getI (ci := 8) (j := 11) rfl (by decide) gX11_45 dX11_tables_169 c1 rfl (fun q => ?_)
      refine wp_iconst dX11_tables_172 ⟨by decide, by decide⟩ ?_
      have c28 := k.1
      replace k := k.2
      refine wp_iadd dX11_tables_173 c28 ?_
      refine wp_putI (ci := 8) (j := 11) rfl (by decide) gX11_45 dX11_tables_174 c1 (Or.inl rfl) rfl ?_
      have c29 := k.1
      replace k := k.2
      refine wp_iinc 1 [1, 0, 2, 3] (ls' := [(0, jR a0), (1, jI (a1 + 4)), (3, jI a3), (4, jI a4)]) dX11_tables_177 rfl c29 ⟨by decide, by decide⟩ (by decide) rfl ?_
      have c30 := k.1
      replace k := k.2
      refine wp_iinc 3 [1, 2, 3, 0] (ls' := [(0, jR a0), (1, jI (a1 + 4)), (3, jI a3), (4, jI (a4 + 1))]) dX11_tables_180 rfl c30 ⟨by decide, by decide⟩ (by decide) rfl ?_
      refine wp_goto 86 dX11_tables_183 rfl ?_
      exact k
    · replace k := k.2 q
      refine wp_iconst dX11_tables_161 ⟨by decide, by decide⟩ ?_
      refine wp_goto 166 dX11_tables_162 rfl ?_
      have c31 := k.1
      replace k := k.2
      have c32 := k.1
      replace k := k.2
      refine wp_zastore dX11_tables_166 c31 c8 c32 ⟨by decide, by decide⟩ ?_
      refine wp_aload_n 0 dX11_tables_167 rfl ?_
      refine wp_dup dX11_tables_168 rfl ?_
      refine wp_getI (ci := 8) (j := 11) rfl (by decide) gX11_45 dX11_tables_169 c1 rfl (fun q => ?_)
      refine wp_iconst dX11_tables_172 ⟨by decide, by decide⟩ ?_
      have c33 := k.1
      replace k := k.2
      refine wp_iadd dX11_tables_173 c33 ?_
      refine wp_putI (ci := 8) (j := 11) rfl (by decide) gX11_45 dX11_tables_174 c1 (Or.inl rfl) rfl ?_
      have c34 := k.1
      replace k := k.2
      refine wp_iinc 1 [1, 0, 2, 3] (ls' := [(0, jR a0), (1, jI (a1 + 4)), (3, jI a3), (4, jI a4)]) dX11_tables_177 rfl c34 ⟨by decide, by decide⟩ (by decide) rfl ?_
      have c35 := k.1
      replace k := k.2
      refine wp_iinc 3 [1, 2, 3, 0] (ls' := [(0, jR a0), (1, jI (a1 + 4)), (3, jI a3), (4, jI (a4 + 1))]) dX11_tables_180 rfl c35 ⟨by decide, by decide⟩ (by decide) rfl ?_
      refine wp_goto 86 dX11_tables_183 rfl ?_
      exact k
theorem bX11_listed {d : Nat} {h : jH} {Q : jO → jH → Prop} {a0 : Nat} {a1 : Int} {a2 : Int} {a3 : Int} {a4 : Int} {a5 : Int} (k : jOK h → j32 a1 → j32 a2 → j32 a3 → j32 a4 → j32 a5 → jWp (d + 1) mX11_listed 3 [(0, jR a0), (2, jI a2), (3, jI a3), (4, jI a4), (5, jI a5), (6, jI a1)] [] h Q) : jCall (d + 1) mX11_listed [jR a0, jI a1, jI a2, jI a3, jI a4, jI a5] h Q := by
  refine jCall_of plX11 (Nat.le_of_ble_eq_true rfl) ?_
  show jWp (d + 1) mX11_listed 0 [(0, jR a0), (1, jI a1), (2, jI a2), (3, jI a3), (4, jI a4), (5, jI a5)] [] h Q
  refine jw_ok (fun ok q => ?_)
  replace k := k ok (q _ (.tail _ (.head _))) (q _ (.tail _ (.tail _ (.head _)))) (q _ (.tail _ (.tail _ (.tail _ (.head _))))) (q _ (.tail _ (.tail _ (.tail _ (.tail _ (.head _)))))) (q _ (.tail _ (.tail _ (.tail _ (.tail _ (.tail _ (.head _)))))))
  refine wp_iload_n 1 dX11_listed_0 rfl ?_
  refine wp_istore [1, 3, 4, 5, 6, 0] (ls' := [(0, jR a0), (2, jI a2), (3, jI a3), (4, jI a4), (5, jI a5), (6, jI a1)]) dX11_listed_1 (by decide) rfl ?_
  exact k
theorem bX11_listed_3 {d : Nat} {h : jH} {Q : jO → jH → Prop} {a0 : Nat} {a2 : Int} {a3 : Int} {a4 : Int} {a5 : Int} {a6 : Int} (k : jOK h → j32 a2 → j32 a3 → j32 a4 → j32 a5 → j32 a6 → ((a2 < a6 → Q (.inl none) h) ∧ (¬ (a2 < a6) → ((0 ≤ a4 → jWp (d + 1) mX11_listed 27 [(0, jR a0), (2, jI a2), (3, jI a3), (4, jI a4), (5, jI a5), (6, jI a6), (7, jI 0)] [] h Q) ∧ (¬ (0 ≤ a4) → hK h a0 = 9 ∧ jCall d mX11_ai [jR a0, jI a6, jI a3, jI (-1), jI a5] h (fun o h21 => o = .inl none ∧ jWp (d + 1) mX11_listed 27 [(0, jR a0), (2, jI a2), (3, jI a3), (4, jI a4), (5, jI a5), (6, jI a6), (7, jI 0)] [] h21 Q)))))) : jWp (d + 1) mX11_listed 3 [(0, jR a0), (2, jI a2), (3, jI a3), (4, jI a4), (5, jI a5), (6, jI a6)] [] h Q := by
  refine jw_ok (fun ok q => ?_)
  replace k := k ok (q _ (.tail _ (.head _))) (q _ (.tail _ (.tail _ (.head _)))) (q _ (.tail _ (.tail _ (.tail _ (.head _))))) (q _ (.tail _ (.tail _ (.tail _ (.tail _ (.head _)))))) (q _ (.tail _ (.tail _ (.tail _ (.tail _ (.tail _ (.head _)))))))
  refine wp_iload 5 dX11_listed_3 rfl ?_
  refine wp_iload_n 1 dX11_listed_5 rfl ?_
  refine wp_icmp_gt 65 dX11_listed_6 rfl (fun q => ?_) (fun q => ?_)
  · replace k := k.1 q
    exact wp_return dX11_listed_65 rfl k
  · replace k := k.2 q
    refine wp_iload 3 dX11_listed_9 rfl ?_
    refine wp_if_ge 24 dX11_listed_11 rfl (fun q => ?_) (fun q => ?_)
    · replace k := k.1 q
      refine wp_iconst dX11_listed_24 ⟨by decide, by decide⟩ ?_
      refine wp_istore [1, 2, 3, 4, 5, 6, 0] (ls' := [(0, jR a0), (2, jI a2), (3, jI a3), (4, jI a4), (5, jI a5), (6, jI a6), (7, jI 0)]) dX11_listed_25 (by decide) rfl ?_
      exact k
    · replace k := k.2 q
      refine wp_aload_n 0 dX11_listed_14 rfl ?_
      refine wp_iload 5 dX11_listed_15 rfl ?_
      refine wp_iload_n 2 dX11_listed_17 rfl ?_
      refine wp_iconst dX11_listed_18 ⟨by decide, by decide⟩ ?_
      refine wp_iload 4 dX11_listed_19 rfl ?_
      have c1 := k.1
      replace k := k.2
      refine wp_callV (ci := 8) (y' := mX11_ai) (st := []) [jI a6, jI a3, jI (-1), jI a5] rfl rfl rfl fX11_ai kX11_288 nX11_ai dX11_listed_21 (Nat.le_of_ble_eq_true rfl) c1 ?_
      refine jCall.mono k (fun o h21 k => ?_)
      obtain ⟨e, k⟩ := k
      subst e
      show jWp (d + 1) mX11_listed 24 [(0, jR a0), (2, jI a2), (3, jI a3), (4, jI a4), (5, jI a5), (6, jI a6)] [] h21 Q
      refine wp_iconst dX11_listed_24 ⟨by decide, by decide⟩ ?_
      refine wp_istore [1, 2, 3, 4, 5, 6, 0] (ls' := [(0, jR a0), (2, jI a2), (3, jI a3), (4, jI a4), (5, jI a5), (6, jI a6), (7, jI 0)]) dX11_listed_25 (by decide) rfl ?_
      exact k
theorem bX11_listed_27 {d : Nat} {h : jH} {Q : jO → jH → Prop} {a0 : Nat} {a2 : Int} {a3 : Int} {a4 : Int} {a5 : Int} {a6 : Int} {a7 : Int} (k : jOK h → j32 a2 → j32 a3 → j32 a4 → j32 a5 → j32 a6 → j32 a7 → ((a4 < a7 → j32 (a6 + 1) ∧ jWp (d + 1) mX11_listed 3 [(0, jR a0), (2, jI a2), (3, jI a3), (4, jI a4), (5, jI a5), (6, jI (a6 + 1))] [] h Q) ∧ (¬ (a4 < a7) → j32 (10 * a6) ∧ j32 ((10 * a6) + a7) ∧ j32 (a3 + 1) ∧ hK h a0 = 9 ∧ jCall d mX11_ai [jR a0, jI ((10 * a6) + a7), jI (a3 + 1), jI a7, jI a5] h (fun o h50 => o = .inl none ∧ j32 (a7 + 1) ∧ jWp (d + 1) mX11_listed 27 [(0, jR a0), (2, jI a2), (3, jI a3), (4, jI a4), (5, jI a5), (6, jI a6), (7, jI (a7 + 1))] [] h50 Q)))) : jWp (d + 1) mX11_listed 27 [(0, jR a0), (2, jI a2), (3, jI a3), (4, jI a4), (5, jI a5), (6, jI a6), (7, jI a7)] [] h Q := by
  refine jw_ok (fun ok q => ?_)
  replace k := k ok (q _ (.tail _ (.head _))) (q _ (.tail _ (.tail _ (.head _)))) (q _ (.tail _ (.tail _ (.tail _ (.head _))))) (q _ (.tail _ (.tail _ (.tail _ (.tail _ (.head _)))))) (q _ (.tail _ (.tail _ (.tail _ (.tail _ (.tail _ (.head _))))))) (q _ (.tail _ (.tail _ (.tail _ (.tail _ (.tail _ (.tail _ (.head _))))))))
  refine wp_iload 6 dX11_listed_27 rfl ?_
  refine wp_iload 3 dX11_listed_29 rfl ?_
  refine wp_icmp_gt 59 dX11_listed_31 rfl (fun q => ?_) (fun q => ?_)
  · replace k := k.1 q
    have c1 := k.1
    replace k := k.2
    refine wp_iinc 5 [1, 2, 3, 4, 5, 0] (ls' := [(0, jR a0), (2, jI a2), (3, jI a3), (4, jI a4), (5, jI a5), (6, jI (a6 + 1))]) dX11_listed_59 rfl c1 ⟨by decide, by decide⟩ (by decide) rfl ?_
    refine wp_goto 3 dX11_listed_62 rfl ?_
    exact k
  · replace k := k.2 q
    refine wp_aload_n 0 dX11_listed_34 rfl ?_
    refine wp_bipush dX11_listed_35 ⟨by decide, by decide⟩ ?_
    refine wp_iload 5 dX11_listed_37 rfl ?_
    have c2 := k.1
    replace k := k.2
    refine wp_imul dX11_listed_39 c2 ?_
    refine wp_iload 6 dX11_listed_40 rfl ?_
    have c3 := k.1
    replace k := k.2
    refine wp_iadd dX11_listed_42 c3 ?_
    refine wp_iload_n 2 dX11_listed_43 rfl ?_
    refine wp_iconst dX11_listed_44 ⟨by decide, by decide⟩ ?_
    have c4 := k.1
    replace k := k.2
    refine wp_iadd dX11_listed_45 c4 ?_
    refine wp_iload 6 dX11_listed_46 rfl ?_
    refine wp_iload 4 dX11_listed_48 rfl ?_
    have c5 := k.1
    replace k := k.2
    refine wp_callV (ci := 8) (y' := mX11_ai) (st := []) [jI ((10 * a6) + a7), jI (a3 + 1), jI a7, jI a5] rfl rfl rfl fX11_ai kX11_288 nX11_ai dX11_listed_50 (Nat.le_of_ble_eq_true rfl) c5 ?_
    refine jCall.mono k (fun o h50 k => ?_)
    obtain ⟨e, k⟩ := k
    subst e
    show jWp (d + 1) mX11_listed 53 [(0, jR a0), (2, jI a2), (3, jI a3), (4, jI a4), (5, jI a5), (6, jI a6), (7, jI a7)] [] h50 Q
    have c6 := k.1
    replace k := k.2
    refine wp_iinc 6 [1, 2, 3, 4, 5, 6, 0] (ls' := [(0, jR a0), (2, jI a2), (3, jI a3), (4, jI a4), (5, jI a5), (6, jI a6), (7, jI (a7 + 1))]) dX11_listed_53 rfl c6 ⟨by decide, by decide⟩ (by decide) rfl ?_
    refine wp_goto 27 dX11_listed_56 rfl ?_
    exact k
theorem bX11_ai {d : Nat} {h : jH} {Q : jO → jH → Prop} {a0 : Nat} {a1 : Int} {a2 : Int} {a3 : Int} {a4 : Int} (k : jOK h → j32 a1 → j32 a2 → j32 a3 → j32 a4 → hK h a0 = 9 ∧ (j32 (hI h 806 a0) → hK h (hR h 801 a0) = 10 ∧ 0 ≤ (hI h 806 a0) ∧ (hI h 806 a0) < hN h (hR h 801 a0) ∧ hK h (hR h 802 a0) = 10 ∧ (hI h 806 a0) < hN h (hR h 802 a0) ∧ hK h (hR h 803 a0) = 10 ∧ (hI h 806 a0) < hN h (hR h 803 a0) ∧ (j32 (hI h 811 a0) → hK h (hR h 804 a0) = 10 ∧ (hI h 806 a0) < hN h (hR h 804 a0) ∧ hK h (hR h 805 a0) = 10 ∧ (hI h 806 a0) < hN h (hR h 805 a0) ∧ j32 ((hI h 806 a0) + 1) ∧ Q (.inl none) (sI (sA (sA (sA (sA (sA h (hR h 801 a0) (hI h 806 a0) a1) (hR h 802 a0) (hI h 806 a0) a2) (hR h 803 a0) (hI h 806 a0) a3) (hR h 804 a0) (hI h 806 a0) (hI h 811 a0)) (hR h 805 a0) (hI h 806 a0) a4) 806 a0 ((hI h 806 a0) + 1))))) : jCall d mX11_ai [jR a0, jI a1, jI a2, jI a3, jI a4] h Q := by
  refine jCall_of plX11 (Nat.le_of_ble_eq_true rfl) ?_
  show jWp d mX11_ai 0 [(0, jR a0), (1, jI a1), (2, jI a2), (3, jI a3), (4, jI a4)] [] h Q
  refine jw_ok (fun ok q => ?_)
  replace k := k ok (q _ (.tail _ (.head _))) (q _ (.tail _ (.tail _ (.head _)))) (q _ (.tail _ (.tail _ (.tail _ (.head _))))) (q _ (.tail _ (.tail _ (.tail _ (.tail _ (.head _))))))
  refine wp_aload_n 0 dX11_ai_0 rfl ?_
  have c1 := k.1
  replace k := k.2
  refine wp_getR (ci := 8) (j := 1) rfl (by decide) gX11_13 dX11_ai_1 c1 rfl ?_
  refine wp_aload_n 0 dX11_ai_4 rfl ?_
  refine wp_getI (ci := 8) (j := 6) rfl (by decide) gX11_28 dX11_ai_5 c1 rfl (fun q => ?_)
  have f2 := q
  replace k := k q
  refine wp_iload_n 1 dX11_ai_8 rfl ?_
  have c3 := k.1
  replace k := k.2
  have c4 := k.1
  replace k := k.2
  have c5 := k.1
  replace k := k.2
  refine wp_iastore dX11_ai_9 c3 c4 c5 ?_
  refine wp_aload_n 0 dX11_ai_10 rfl ?_
  refine wp_getR (ci := 8) (j := 2) rfl (by decide) gX11_16 dX11_ai_11 c1 rfl ?_
  refine wp_aload_n 0 dX11_ai_14 rfl ?_
  refine wp_getI (ci := 8) (j := 6) rfl (by decide) gX11_28 dX11_ai_15 c1 rfl (fun q => ?_)
  refine wp_iload_n 2 dX11_ai_18 rfl ?_
  have c6 := k.1
  replace k := k.2
  have c7 := k.1
  replace k := k.2
  refine wp_iastore dX11_ai_19 c6 c4 c7 ?_
  refine wp_aload_n 0 dX11_ai_20 rfl ?_
  refine wp_getR (ci := 8) (j := 3) rfl (by decide) gX11_19 dX11_ai_21 c1 rfl ?_
  refine wp_aload_n 0 dX11_ai_24 rfl ?_
  refine wp_getI (ci := 8) (j := 6) rfl (by decide) gX11_28 dX11_ai_25 c1 rfl (fun q => ?_)
  refine wp_iload_n 3 dX11_ai_28 rfl ?_
  have c8 := k.1
  replace k := k.2
  have c9 := k.1
  replace k := k.2
  refine wp_iastore dX11_ai_29 c8 c4 c9 ?_
  refine wp_aload_n 0 dX11_ai_30 rfl ?_
  refine wp_getR (ci := 8) (j := 4) rfl (by decide) gX11_22 dX11_ai_31 c1 rfl ?_
  refine wp_aload_n 0 dX11_ai_34 rfl ?_
  refine wp_getI (ci := 8) (j := 6) rfl (by decide) gX11_28 dX11_ai_35 c1 rfl (fun q => ?_)
  refine wp_aload_n 0 dX11_ai_38 rfl ?_
  refine wp_getI (ci := 8) (j := 11) rfl (by decide) gX11_45 dX11_ai_39 c1 rfl (fun q => ?_)
  have f10 := q
  replace k := k q
  have c11 := k.1
  replace k := k.2
  have c12 := k.1
  replace k := k.2
  refine wp_iastore dX11_ai_42 c11 c4 c12 ?_
  refine wp_aload_n 0 dX11_ai_43 rfl ?_
  refine wp_getR (ci := 8) (j := 5) rfl (by decide) gX11_25 dX11_ai_44 c1 rfl ?_
  refine wp_aload_n 0 dX11_ai_47 rfl ?_
  refine wp_getI (ci := 8) (j := 6) rfl (by decide) gX11_28 dX11_ai_48 c1 rfl (fun q => ?_)
  refine wp_iload 4 dX11_ai_51 rfl ?_
  have c13 := k.1
  replace k := k.2
  have c14 := k.1
  replace k := k.2
  refine wp_iastore dX11_ai_53 c13 c4 c14 ?_
  refine wp_aload_n 0 dX11_ai_54 rfl ?_
  refine wp_dup dX11_ai_55 rfl ?_
  refine wp_getI (ci := 8) (j := 6) rfl (by decide) gX11_28 dX11_ai_56 c1 rfl (fun q => ?_)
  refine wp_iconst dX11_ai_59 ⟨by decide, by decide⟩ ?_
  have c15 := k.1
  replace k := k.2
  refine wp_iadd dX11_ai_60 c15 ?_
  refine wp_putI (ci := 8) (j := 6) rfl (by decide) gX11_28 dX11_ai_61 c1 (Or.inl rfl) rfl ?_
  exact wp_return dX11_ai_64 rfl k
theorem bX11_aiOf {d : Nat} {h : jH} {Q : jO → jH → Prop} {a0 : Nat} {a1 : Int} {a2 : Int} (k : jOK h → j32 a1 → j32 a2 → jWp d mX11_aiOf 2 [(0, jR a0), (1, jI a1), (2, jI a2), (3, jI 0)] [] h Q) : jCall d mX11_aiOf [jR a0, jI a1, jI a2] h Q := by
  refine jCall_of plX11 (Nat.le_of_ble_eq_true rfl) ?_
  show jWp d mX11_aiOf 0 [(0, jR a0), (1, jI a1), (2, jI a2)] [] h Q
  refine jw_ok (fun ok q => ?_)
  replace k := k ok (q _ (.tail _ (.head _))) (q _ (.tail _ (.tail _ (.head _))))
  refine wp_iconst dX11_aiOf_0 ⟨by decide, by decide⟩ ?_
  refine wp_istore_n [1, 2, 3, 0] (ls' := [(0, jR a0), (1, jI a1), (2, jI a2), (3, jI 0)]) dX11_aiOf_1 (by decide) rfl ?_
  exact k
theorem bX11_aiOf_2 {d : Nat} {h : jH} {Q : jO → jH → Prop} {a0 : Nat} {a1 : Int} {a2 : Int} {a3 : Int} (k : jOK h → j32 a1 → j32 a2 → j32 a3 → hK h a0 = 9 ∧ (j32 (hI h 806 a0) → (((hI h 806 a0) ≤ a3 → Q (.inl (some (jI (-1)))) h) ∧ (¬ ((hI h 806 a0) ≤ a3) → hK h (hR h 801 a0) = 10 ∧ 0 ≤ a3 ∧ a3 < hN h (hR h 801 a0) ∧ (j32 (hA h (hR h 801 a0) a3) → (((hA h (hR h 801 a0) a3) ≠ a1 → j32 (a3 + 1) ∧ jWp d mX11_aiOf 2 [(0, jR a0), (1, jI a1), (2, jI a2), (3, jI (a3 + 1))] [] h Q) ∧ ((hA h (hR h 801 a0) a3) = a1 → hK h (hR h 802 a0) = 10 ∧ a3 < hN h (hR h 802 a0) ∧ (j32 (hA h (hR h 802 a0) a3) → (((hA h (hR h 802 a0) a3) ≠ a2 → j32 (a3 + 1) ∧ jWp d mX11_aiOf 2 [(0, jR a0), (1, jI a1), (2, jI a2), (3, jI (a3 + 1))] [] h Q) ∧ ((hA h (hR h 802 a0) a3) = a2 → Q (.inl (some (jI a3))) h)))))))))) : jWp d mX11_aiOf 2 [(0, jR a0), (1, jI a1), (2, jI a2), (3, jI a3)] [] h Q := by
  refine jw_ok (fun ok q => ?_)
  replace k := k ok (q _ (.tail _ (.head _))) (q _ (.tail _ (.tail _ (.head _)))) (q _ (.tail _ (.tail _ (.tail _ (.head _)))))
  refine wp_iload_n 3 dX11_aiOf_2 rfl ?_
  refine wp_aload_n 0 dX11_aiOf_3 rfl ?_
  have c1 := k.1
  replace k := k.2
  refine wp_getI (ci := 8) (j := 6) rfl (by decide) gX11_28 dX11_aiOf_4 c1 rfl (fun q => ?_)
  have f2 := q
  replace k := k q
  refine wp_icmp_ge 38 dX11_aiOf_7 rfl (fun q => ?_) (fun q => ?_)
  · replace k := k.1 q
    refine wp_iconst dX11_aiOf_38 ⟨by decide, by decide⟩ ?_
    exact wp_iret dX11_aiOf_39 rfl k
  · replace k := k.2 q
    refine wp_aload_n 0 dX11_aiOf_10 rfl ?_
    refine wp_getR (ci := 8) (j := 1) rfl (by decide) gX11_13 dX11_aiOf_11 c1 rfl ?_
    refine wp_iload_n 3 dX11_aiOf_14 rfl ?_
    have c3 := k.1
    replace k := k.2
    have c4 := k.1
    replace k := k.2
    have c5 := k.1
    replace k := k.2
    refine wp_iaload dX11_aiOf_15 c3 c4 c5 (fun q => ?_)
    have f6 := q
    replace k := k q
    refine wp_iload_n 1 dX11_aiOf_16 rfl ?_
    refine wp_icmp_ne 32 dX11_aiOf_17 rfl (fun q => ?_) (fun q => ?_)
    · replace k := k.1 q
      have c7 := k.1
      replace k := k.2
      refine wp_iinc 3 [1, 2, 3, 0] (ls' := [(0, jR a0), (1, jI a1), (2, jI a2), (3, jI (a3 + 1))]) dX11_aiOf_32 rfl c7 ⟨by decide, by decide⟩ (by decide) rfl ?_
      refine wp_goto 2 dX11_aiOf_35 rfl ?_
      exact k
    · replace k := k.2 q
      refine wp_aload_n 0 dX11_aiOf_20 rfl ?_
      refine wp_getR (ci := 8) (j := 2) rfl (by decide) gX11_16 dX11_aiOf_21 c1 rfl ?_
      refine wp_iload_n 3 dX11_aiOf_24 rfl ?_
      have c8 := k.1
      replace k := k.2
      have c9 := k.1
      replace k := k.2
      refine wp_iaload dX11_aiOf_25 c8 c4 c9 (fun q => ?_)
      have f10 := q
      replace k := k q
      refine wp_iload_n 2 dX11_aiOf_26 rfl ?_
      refine wp_icmp_ne 32 dX11_aiOf_27 rfl (fun q => ?_) (fun q => ?_)
      · replace k := k.1 q
        have c11 := k.1
        replace k := k.2
        refine wp_iinc 3 [1, 2, 3, 0] (ls' := [(0, jR a0), (1, jI a1), (2, jI a2), (3, jI (a3 + 1))]) dX11_aiOf_32 rfl c11 ⟨by decide, by decide⟩ (by decide) rfl ?_
        refine wp_goto 2 dX11_aiOf_35 rfl ?_
        exact k
      · replace k := k.2 q
        refine wp_iload_n 3 dX11_aiOf_30 rfl ?_
        exact wp_iret dX11_aiOf_31 rfl k
theorem bX11_isFixed {d : Nat} {h : jH} {Q : jO → jH → Prop} {a0 : Nat} {a1 : Int} (k : jOK h → j32 a1 → hK h a0 = 9 ∧ hK h (hR h 801 a0) = 10 ∧ 0 ≤ a1 ∧ a1 < hN h (hR h 801 a0) ∧ (j32 (hA h (hR h 801 a0) a1) → hK h (hR h 802 a0) = 10 ∧ a1 < hN h (hR h 802 a0) ∧ (j32 (hA h (hR h 802 a0) a1) → jWp d mX11_isFixed 14 [(2, jI (hA h (hR h 801 a0) a1)), (3, jI (hA h (hR h 802 a0) a1))] [] h Q))) : jCall d mX11_isFixed [jR a0, jI a1] h Q := by
  refine jCall_of plX11 (Nat.le_of_ble_eq_true rfl) ?_
  show jWp d mX11_isFixed 0 [(0, jR a0), (1, jI a1)] [] h Q
  refine jw_ok (fun ok q => ?_)
  replace k := k ok (q _ (.tail _ (.head _)))
  refine wp_aload_n 0 dX11_isFixed_0 rfl ?_
  have c1 := k.1
  replace k := k.2
  refine wp_getR (ci := 8) (j := 1) rfl (by decide) gX11_13 dX11_isFixed_1 c1 rfl ?_
  refine wp_iload_n 1 dX11_isFixed_4 rfl ?_
  have c2 := k.1
  replace k := k.2
  have c3 := k.1
  replace k := k.2
  have c4 := k.1
  replace k := k.2
  refine wp_iaload dX11_isFixed_5 c2 c3 c4 (fun q => ?_)
  have f5 := q
  replace k := k q
  refine wp_istore_n [1, 2, 0] (ls' := [(0, jR a0), (1, jI a1), (2, jI (hA h (hR h 801 a0) a1))]) dX11_isFixed_6 (by decide) rfl ?_
  refine wp_aload_n 0 dX11_isFixed_7 rfl ?_
  refine wp_getR (ci := 8) (j := 2) rfl (by decide) gX11_16 dX11_isFixed_8 c1 rfl ?_
  refine wp_iload_n 1 dX11_isFixed_11 rfl ?_
  have c6 := k.1
  replace k := k.2
  have c7 := k.1
  replace k := k.2
  refine wp_iaload dX11_isFixed_12 c6 c3 c7 (fun q => ?_)
  have f8 := q
  replace k := k q
  refine wp_istore_n [3, 0] (ls' := [(2, jI (hA h (hR h 801 a0) a1)), (3, jI (hA h (hR h 802 a0) a1))]) dX11_isFixed_13 (by decide) rfl ?_
  exact k
theorem bX11_isFixed_14 {d : Nat} {h : jH} {Q : jO → jH → Prop} {a2 : Int} {a3 : Int} (k : jOK h → j32 a2 → j32 a3 → ((a3 ≤ 2 → ((a2 ≤ 2 → Q (.inl (some (jI 1))) h) ∧ (¬ (a2 ≤ 2) → ((a2 < 11 → ((a2 = 20 → Q (.inl (some (jI 1))) h) ∧ (¬ (a2 = 20) → ((a2 < 31 → ((a2 ≠ 41 → Q (.inl (some (jI 0))) h) ∧ (a2 = 41 → Q (.inl (some (jI 1))) h))) ∧ (¬ (a2 < 31) → ((a2 ≤ 36 → Q (.inl (some (jI 1))) h) ∧ (¬ (a2 ≤ 36) → ((a2 ≠ 41 → Q (.inl (some (jI 0))) h) ∧ (a2 = 41 → Q (.inl (some (jI 1))) h))))))))) ∧ (¬ (a2 < 11) → ((a2 ≤ 17 → Q (.inl (some (jI 1))) h) ∧ (¬ (a2 ≤ 17) → ((a2 = 20 → Q (.inl (some (jI 1))) h) ∧ (¬ (a2 = 20) → ((a2 < 31 → ((a2 ≠ 41 → Q (.inl (some (jI 0))) h) ∧ (a2 = 41 → Q (.inl (some (jI 1))) h))) ∧ (¬ (a2 < 31) → ((a2 ≤ 36 → Q (.inl (some (jI 1))) h) ∧ (¬ (a2 ≤ 36) → ((a2 ≠ 41 → Q (.inl (some (jI 0))) h) ∧ (a2 = 41 → Q (.inl (some (jI 1))) h))))))))))))))) ∧ (¬ (a3 ≤ 2) → 0 ≤ a2 ∧ j32 (a3 + (-1)) ∧ jWp d mX11_isFixed 14 [(2, jI (a2 / 10)), (3, jI (a3 + (-1)))] [] h Q))) : jWp d mX11_isFixed 14 [(2, jI a2), (3, jI a3)] [] h Q := by
  refine jw_ok (fun ok q => ?_)
  replace k := k ok (q _ (.head _)) (q _ (.tail _ (.head _)))
  refine wp_iload_n 1 dX11_isFixed_14 rfl ?_
  refine wp_iconst dX11_isFixed_15 ⟨by decide, by decide⟩ ?_
  refine wp_icmp_le 30 dX11_isFixed_16 rfl (fun q => ?_) (fun q => ?_)
  · replace k := k.1 q
    refine wp_iload_n 0 dX11_isFixed_30 rfl ?_
    refine wp_iconst dX11_isFixed_31 ⟨by decide, by decide⟩ ?_
    refine wp_icmp_le 71 dX11_isFixed_32 rfl (fun q => ?_) (fun q => ?_)
    · replace k := k.1 q
      refine wp_iconst dX11_isFixed_71 ⟨by decide, by decide⟩ ?_
      refine wp_goto 76 dX11_isFixed_72 rfl ?_
      exact wp_zreturn dX11_isFixed_76 rfl (by decide) (by decide) k
    · replace k := k.2 q
      refine wp_iload_n 0 dX11_isFixed_35 rfl ?_
      refine wp_bipush dX11_isFixed_36 ⟨by decide, by decide⟩ ?_
      refine wp_icmp_lt 47 dX11_isFixed_38 rfl (fun q => ?_) (fun q => ?_)
      · replace k := k.1 q
        refine wp_iload_n 0 dX11_isFixed_47 rfl ?_
        refine wp_bipush dX11_isFixed_48 ⟨by decide, by decide⟩ ?_
        refine wp_icmp_eq 71 dX11_isFixed_50 rfl (fun q => ?_) (fun q => ?_)
        · replace k := k.1 q
          refine wp_iconst dX11_isFixed_71 ⟨by decide, by decide⟩ ?_
          refine wp_goto 76 dX11_isFixed_72 rfl ?_
          exact wp_zreturn dX11_isFixed_76 rfl (by decide) (by decide) k
        · replace k := k.2 q
          refine wp_iload_n 0 dX11_isFixed_53 rfl ?_
          refine wp_bipush dX11_isFixed_54 ⟨by decide, by decide⟩ ?_
          refine wp_icmp_lt 65 dX11_isFixed_56 rfl (fun q => ?_) (fun q => ?_)
          · replace k := k.1 q
            refine wp_iload_n 0 dX11_isFixed_65 rfl ?_
            refine wp_bipush dX11_isFixed_66 ⟨by decide, by decide⟩ ?_
            refine wp_icmp_ne 75 dX11_isFixed_68 rfl (fun q => ?_) (fun q => ?_)
            · replace k := k.1 q
              refine wp_iconst dX11_isFixed_75 ⟨by decide, by decide⟩ ?_
              exact wp_zreturn dX11_isFixed_76 rfl (by decide) (by decide) k
            · replace k := k.2 q
              refine wp_iconst dX11_isFixed_71 ⟨by decide, by decide⟩ ?_
              refine wp_goto 76 dX11_isFixed_72 rfl ?_
              exact wp_zreturn dX11_isFixed_76 rfl (by decide) (by decide) k
          · replace k := k.2 q
            refine wp_iload_n 0 dX11_isFixed_59 rfl ?_
            refine wp_bipush dX11_isFixed_60 ⟨by decide, by decide⟩ ?_
            refine wp_icmp_le 71 dX11_isFixed_62 rfl (fun q => ?_) (fun q => ?_)
            · replace k := k.1 q
              refine wp_iconst dX11_isFixed_71 ⟨by decide, by decide⟩ ?_
              refine wp_goto 76 dX11_isFixed_72 rfl ?_
              exact wp_zreturn dX11_isFixed_76 rfl (by decide) (by decide) k
            · replace k := k.2 q
              refine wp_iload_n 0 dX11_isFixed_65 rfl ?_
              refine wp_bipush dX11_isFixed_66 ⟨by decide, by decide⟩ ?_
              refine wp_icmp_ne 75 dX11_isFixed_68 rfl (fun q => ?_) (fun q => ?_)
              · replace k := k.1 q
                refine wp_iconst dX11_isFixed_75 ⟨by decide, by decide⟩ ?_
                exact wp_zreturn dX11_isFixed_76 rfl (by decide) (by decide) k
              · replace k := k.2 q
                refine wp_iconst dX11_isFixed_71 ⟨by decide, by decide⟩ ?_
                refine wp_goto 76 dX11_isFixed_72 rfl ?_
                exact wp_zreturn dX11_isFixed_76 rfl (by decide) (by decide) k
      · replace k := k.2 q
        refine wp_iload_n 0 dX11_isFixed_41 rfl ?_
        refine wp_bipush dX11_isFixed_42 ⟨by decide, by decide⟩ ?_
        refine wp_icmp_le 71 dX11_isFixed_44 rfl (fun q => ?_) (fun q => ?_)
        · replace k := k.1 q
          refine wp_iconst dX11_isFixed_71 ⟨by decide, by decide⟩ ?_
          refine wp_goto 76 dX11_isFixed_72 rfl ?_
          exact wp_zreturn dX11_isFixed_76 rfl (by decide) (by decide) k
        · replace k := k.2 q
          refine wp_iload_n 0 dX11_isFixed_47 rfl ?_
          refine wp_bipush dX11_isFixed_48 ⟨by decide, by decide⟩ ?_
          refine wp_icmp_eq 71 dX11_isFixed_50 rfl (fun q => ?_) (fun q => ?_)
          · replace k := k.1 q
            refine wp_iconst dX11_isFixed_71 ⟨by decide, by decide⟩ ?_
            refine wp_goto 76 dX11_isFixed_72 rfl ?_
            exact wp_zreturn dX11_isFixed_76 rfl (by decide) (by decide) k
          · replace k := k.2 q
            refine wp_iload_n 0 dX11_isFixed_53 rfl ?_
            refine wp_bipush dX11_isFixed_54 ⟨by decide, by decide⟩ ?_
            refine wp_icmp_lt 65 dX11_isFixed_56 rfl (fun q => ?_) (fun q => ?_)
            · replace k := k.1 q
              refine wp_iload_n 0 dX11_isFixed_65 rfl ?_
              refine wp_bipush dX11_isFixed_66 ⟨by decide, by decide⟩ ?_
              refine wp_icmp_ne 75 dX11_isFixed_68 rfl (fun q => ?_) (fun q => ?_)
              · replace k := k.1 q
                refine wp_iconst dX11_isFixed_75 ⟨by decide, by decide⟩ ?_
                exact wp_zreturn dX11_isFixed_76 rfl (by decide) (by decide) k
              · replace k := k.2 q
                refine wp_iconst dX11_isFixed_71 ⟨by decide, by decide⟩ ?_
                refine wp_goto 76 dX11_isFixed_72 rfl ?_
                exact wp_zreturn dX11_isFixed_76 rfl (by decide) (by decide) k
            · replace k := k.2 q
              refine wp_iload_n 0 dX11_isFixed_59 rfl ?_
              refine wp_bipush dX11_isFixed_60 ⟨by decide, by decide⟩ ?_
              refine wp_icmp_le 71 dX11_isFixed_62 rfl (fun q => ?_) (fun q => ?_)
              · replace k := k.1 q
                refine wp_iconst dX11_isFixed_71 ⟨by decide, by decide⟩ ?_
                refine wp_goto 76 dX11_isFixed_72 rfl ?_
                exact wp_zreturn dX11_isFixed_76 rfl (by decide) (by decide) k
              · replace k := k.2 q
                refine wp_iload_n 0 dX11_isFixed_65 rfl ?_
                refine wp_bipush dX11_isFixed_66 ⟨by decide, by decide⟩ ?_
                refine wp_icmp_ne 75 dX11_isFixed_68 rfl (fun q => ?_) (fun q => ?_)
                · replace k := k.1 q
                  refine wp_iconst dX11_isFixed_75 ⟨by decide, by decide⟩ ?_
                  exact wp_zreturn dX11_isFixed_76 rfl (by decide) (by decide) k
                · replace k := k.2 q
                  refine wp_iconst dX11_isFixed_71 ⟨by decide, by decide⟩ ?_
                  refine wp_goto 76 dX11_isFixed_72 rfl ?_
                  exact wp_zreturn dX11_isFixed_76 rfl (by decide) (by decide) k
  · replace k := k.2 q
    refine wp_iload_n 0 dX11_isFixed_19 rfl ?_
    refine wp_bipush dX11_isFixed_20 ⟨by decide, by decide⟩ ?_
    have c1 := k.1
    replace k := k.2
    refine wp_idiv dX11_isFixed_22 c1 (by decide) ?_
    refine wp_istore_n [0, 1] (ls' := [(2, jI (a2 / 10)), (3, jI a3)]) dX11_isFixed_23 (by decide) rfl ?_
    have c2 := k.1
    replace k := k.2
    refine wp_iinc 1 [1, 0] (ls' := [(2, jI (a2 / 10)), (3, jI (a3 + (-1)))]) dX11_isFixed_24 rfl c2 ⟨by decide, by decide⟩ (by decide) rfl ?_
    refine wp_goto 14 dX11_isFixed_27 rfl ?_
    exact k
theorem bX11_kin {d : Nat} {h : jH} {Q : jO → jH → Prop} {a0 : Nat} {a1 : Int} (k : jOK h → j32 a1 → hK h a0 = 9 ∧ hK h (hR h 803 a0) = 10 ∧ 0 ≤ a1 ∧ a1 < hN h (hR h 803 a0) ∧ (j32 (hA h (hR h 803 a0) a1) → ((0 ≤ (hA h (hR h 803 a0) a1) → hK h (hR h 801 a0) = 10 ∧ a1 < hN h (hR h 801 a0) ∧ (j32 (hA h (hR h 801 a0) a1) → 0 ≤ (hA h (hR h 801 a0) a1) ∧ j32 (1000000 + ((hA h (hR h 801 a0) a1) / 10)) ∧ Q (.inl (some (jI (1000000 + ((hA h (hR h 801 a0) a1) / 10))))) h)) ∧ (¬ (0 ≤ (hA h (hR h 803 a0) a1)) → hK h (hR h 801 a0) = 10 ∧ a1 < hN h (hR h 801 a0) ∧ (j32 (hA h (hR h 801 a0) a1) → j32 (10 * (hA h (hR h 801 a0) a1)) ∧ hK h (hR h 802 a0) = 10 ∧ a1 < hN h (hR h 802 a0) ∧ (j32 (hA h (hR h 802 a0) a1) → j32 ((10 * (hA h (hR h 801 a0) a1)) + (hA h (hR h 802 a0) a1)) ∧ Q (.inl (some (jI ((10 * (hA h (hR h 801 a0) a1)) + (hA h (hR h 802 a0) a1))))) h)))))) : jCall d mX11_kin [jR a0, jI a1] h Q := by
  refine jCall_of plX11 (Nat.le_of_ble_eq_true rfl) ?_
  show jWp d mX11_kin 0 [(0, jR a0), (1, jI a1)] [] h Q
  refine jw_ok (fun ok q => ?_)
  replace k := k ok (q _ (.tail _ (.head _)))
  refine wp_aload_n 0 dX11_kin_0 rfl ?_
  have c1 := k.1
  replace k := k.2
  refine wp_getR (ci := 8) (j := 3) rfl (by decide) gX11_19 dX11_kin_1 c1 rfl ?_
  refine wp_iload_n 1 dX11_kin_4 rfl ?_
  have c2 := k.1
  replace k := k.2
  have c3 := k.1
  replace k := k.2
  have c4 := k.1
  replace k := k.2
  refine wp_iaload dX11_kin_5 c2 c3 c4 (fun q => ?_)
  have f5 := q
  replace k := k q
  refine wp_if_ge 28 dX11_kin_6 rfl (fun q => ?_) (fun q => ?_)
  · replace k := k.1 q
    refine wp_ldc_w dX11_kin_28 eX11_292 rfl ⟨by decide, by decide⟩ ?_
    refine wp_aload_n 0 dX11_kin_31 rfl ?_
    refine wp_getR (ci := 8) (j := 1) rfl (by decide) gX11_13 dX11_kin_32 c1 rfl ?_
    refine wp_iload_n 1 dX11_kin_35 rfl ?_
    have c6 := k.1
    replace k := k.2
    have c7 := k.1
    replace k := k.2
    refine wp_iaload dX11_kin_36 c6 c3 c7 (fun q => ?_)
    have f8 := q
    replace k := k q
    refine wp_bipush dX11_kin_37 ⟨by decide, by decide⟩ ?_
    have c9 := k.1
    replace k := k.2
    refine wp_idiv dX11_kin_39 c9 (by decide) ?_
    have c10 := k.1
    replace k := k.2
    refine wp_iadd dX11_kin_40 c10 ?_
    exact wp_iret dX11_kin_41 rfl k
  · replace k := k.2 q
    refine wp_bipush dX11_kin_9 ⟨by decide, by decide⟩ ?_
    refine wp_aload_n 0 dX11_kin_11 rfl ?_
    refine wp_getR (ci := 8) (j := 1) rfl (by decide) gX11_13 dX11_kin_12 c1 rfl ?_
    refine wp_iload_n 1 dX11_kin_15 rfl ?_
    have c11 := k.1
    replace k := k.2
    have c12 := k.1
    replace k := k.2
    refine wp_iaload dX11_kin_16 c11 c3 c12 (fun q => ?_)
    have f13 := q
    replace k := k q
    have c14 := k.1
    replace k := k.2
    refine wp_imul dX11_kin_17 c14 ?_
    refine wp_aload_n 0 dX11_kin_18 rfl ?_
    refine wp_getR (ci := 8) (j := 2) rfl (by decide) gX11_16 dX11_kin_19 c1 rfl ?_
    refine wp_iload_n 1 dX11_kin_22 rfl ?_
    have c15 := k.1
    replace k := k.2
    have c16 := k.1
    replace k := k.2
    refine wp_iaload dX11_kin_23 c15 c3 c16 (fun q => ?_)
    have f17 := q
    replace k := k q
    have c18 := k.1
    replace k := k.2
    refine wp_iadd dX11_kin_24 c18 ?_
    refine wp_goto 41 dX11_kin_25 rfl ?_
    exact wp_iret dX11_kin_41 rfl k
theorem bX11_copy {d : Nat} {h : jH} {Q : jO → jH → Prop} {a0 : Nat} {a1 : Int} {a2 : Int} {a3 : Int} {a4 : Int} (k : jOK h → j32 a1 → j32 a2 → j32 a3 → j32 a4 → j32 (20 * a1) ∧ j32 ((20 * a1) + a2) ∧ j32 (20 * a3) ∧ j32 ((20 * a3) + a4) ∧ hK h a0 = 9 ∧ hK h (hR h 814 a0) = 10 ∧ 0 ≤ ((20 * a1) + a2) ∧ ((20 * a1) + a2) < hN h (hR h 814 a0) ∧ (j32 (hA h (hR h 814 a0) ((20 * a1) + a2)) → 0 ≤ ((20 * a3) + a4) ∧ ((20 * a3) + a4) < hN h (hR h 814 a0) ∧ hK h (hR h 815 a0) = 10 ∧ ((20 * a1) + a2) < hN h (hR h 815 a0) ∧ (j32 (hA (sA h (hR h 814 a0) ((20 * a3) + a4) (hA h (hR h 814 a0) ((20 * a1) + a2))) (hR h 815 a0) ((20 * a1) + a2)) → ((20 * a3) + a4) < hN h (hR h 815 a0) ∧ j32 (2 * ((20 * a3) + a4)) ∧ j32 (2 * ((20 * a1) + a2)) ∧ hK h (hR h 816 a0) = 10 ∧ 0 ≤ (2 * ((20 * a1) + a2)) ∧ (2 * ((20 * a1) + a2)) < hN h (hR h 816 a0) ∧ (j32 (hA (sA (sA h (hR h 814 a0) ((20 * a3) + a4) (hA h (hR h 814 a0) ((20 * a1) + a2))) (hR h 815 a0) ((20 * a3) + a4) (hA (sA h (hR h 814 a0) ((20 * a3) + a4) (hA h (hR h 814 a0) ((20 * a1) + a2))) (hR h 815 a0) ((20 * a1) + a2))) (hR h 816 a0) (2 * ((20 * a1) + a2))) → 0 ≤ (2 * ((20 * a3) + a4)) ∧ (2 * ((20 * a3) + a4)) < hN h (hR h 816 a0) ∧ j32 ((2 * ((20 * a3) + a4)) + 1) ∧ j32 ((2 * ((20 * a1) + a2)) + 1) ∧ 0 ≤ ((2 * ((20 * a1) + a2)) + 1) ∧ ((2 * ((20 * a1) + a2)) + 1) < hN h (hR h 816 a0) ∧ (j32 (hA (sA (sA (sA h (hR h 814 a0) ((20 * a3) + a4) (hA h (hR h 814 a0) ((20 * a1) + a2))) (hR h 815 a0) ((20 * a3) + a4) (hA (sA h (hR h 814 a0) ((20 * a3) + a4) (hA h (hR h 814 a0) ((20 * a1) + a2))) (hR h 815 a0) ((20 * a1) + a2))) (hR h 816 a0) (2 * ((20 * a3) + a4)) (hA (sA (sA h (hR h 814 a0) ((20 * a3) + a4) (hA h (hR h 814 a0) ((20 * a1) + a2))) (hR h 815 a0) ((20 * a3) + a4) (hA (sA h (hR h 814 a0) ((20 * a3) + a4) (hA h (hR h 814 a0) ((20 * a1) + a2))) (hR h 815 a0) ((20 * a1) + a2))) (hR h 816 a0) (2 * ((20 * a1) + a2)))) (hR h 816 a0) ((2 * ((20 * a1) + a2)) + 1)) → 0 ≤ ((2 * ((20 * a3) + a4)) + 1) ∧ ((2 * ((20 * a3) + a4)) + 1) < hN h (hR h 816 a0) ∧ jWp d mX11_copy 88 [(0, jR a0), (5, jI ((20 * a1) + a2)), (6, jI ((20 * a3) + a4)), (7, jI 0)] [] (sA (sA (sA (sA h (hR h 814 a0) ((20 * a3) + a4) (hA h (hR h 814 a0) ((20 * a1) + a2))) (hR h 815 a0) ((20 * a3) + a4) (hA (sA h (hR h 814 a0) ((20 * a3) + a4) (hA h (hR h 814 a0) ((20 * a1) + a2))) (hR h 815 a0) ((20 * a1) + a2))) (hR h 816 a0) (2 * ((20 * a3) + a4)) (hA (sA (sA h (hR h 814 a0) ((20 * a3) + a4) (hA h (hR h 814 a0) ((20 * a1) + a2))) (hR h 815 a0) ((20 * a3) + a4) (hA (sA h (hR h 814 a0) ((20 * a3) + a4) (hA h (hR h 814 a0) ((20 * a1) + a2))) (hR h 815 a0) ((20 * a1) + a2))) (hR h 816 a0) (2 * ((20 * a1) + a2)))) (hR h 816 a0) ((2 * ((20 * a3) + a4)) + 1) (hA (sA (sA (sA h (hR h 814 a0) ((20 * a3) + a4) (hA h (hR h 814 a0) ((20 * a1) + a2))) (hR h 815 a0) ((20 * a3) + a4) (hA (sA h (hR h 814 a0) ((20 * a3) + a4) (hA h (hR h 814 a0) ((20 * a1) + a2))) (hR h 815 a0) ((20 * a1) + a2))) (hR h 816 a0) (2 * ((20 * a3) + a4)) (hA (sA (sA h (hR h 814 a0) ((20 * a3) + a4) (hA h (hR h 814 a0) ((20 * a1) + a2))) (hR h 815 a0) ((20 * a3) + a4) (hA (sA h (hR h 814 a0) ((20 * a3) + a4) (hA h (hR h 814 a0) ((20 * a1) + a2))) (hR h 815 a0) ((20 * a1) + a2))) (hR h 816 a0) (2 * ((20 * a1) + a2)))) (hR h 816 a0) ((2 * ((20 * a1) + a2)) + 1))) Q))))) : jCall d mX11_copy [jR a0, jI a1, jI a2, jI a3, jI a4] h Q := by
  refine jCall_of plX11 (Nat.le_of_ble_eq_true rfl) ?_
  show jWp d mX11_copy 0 [(0, jR a0), (1, jI a1), (2, jI a2), (3, jI a3), (4, jI a4)] [] h Q
  refine jw_ok (fun ok q => ?_)
  replace k := k ok (q _ (.tail _ (.head _))) (q _ (.tail _ (.tail _ (.head _)))) (q _ (.tail _ (.tail _ (.tail _ (.head _))))) (q _ (.tail _ (.tail _ (.tail _ (.tail _ (.head _))))))
  refine wp_bipush dX11_copy_0 ⟨by decide, by decide⟩ ?_
  refine wp_iload_n 1 dX11_copy_2 rfl ?_
  have c1 := k.1
  replace k := k.2
  refine wp_imul dX11_copy_3 c1 ?_
  refine wp_iload_n 2 dX11_copy_4 rfl ?_
  have c2 := k.1
  replace k := k.2
  refine wp_iadd dX11_copy_5 c2 ?_
  refine wp_istore [1, 4, 5, 0] (ls' := [(0, jR a0), (3, jI a3), (4, jI a4), (5, jI ((20 * a1) + a2))]) dX11_copy_6 (by decide) rfl ?_
  refine wp_bipush dX11_copy_8 ⟨by decide, by decide⟩ ?_
  refine wp_iload_n 1 dX11_copy_10 rfl ?_
  have c3 := k.1
  replace k := k.2
  refine wp_imul dX11_copy_11 c3 ?_
  refine wp_iload 2 dX11_copy_12 rfl ?_
  have c4 := k.1
  replace k := k.2
  refine wp_iadd dX11_copy_14 c4 ?_
  refine wp_istore [1, 4, 0] (ls' := [(0, jR a0), (5, jI ((20 * a1) + a2)), (6, jI ((20 * a3) + a4))]) dX11_copy_15 (by decide) rfl ?_
  refine wp_aload_n 0 dX11_copy_17 rfl ?_
  have c5 := k.1
  replace k := k.2
  refine wp_getR (ci := 8) (j := 14) rfl (by decide) gX11_54 dX11_copy_18 c5 rfl ?_
  refine wp_iload 2 dX11_copy_21 rfl ?_
  refine wp_aload_n 0 dX11_copy_23 rfl ?_
  refine wp_getR (ci := 8) (j := 14) rfl (by decide) gX11_54 dX11_copy_24 c5 rfl ?_
  refine wp_iload 1 dX11_copy_27 rfl ?_
  have c6 := k.1
  replace k := k.2
  have c7 := k.1
  replace k := k.2
  have c8 := k.1
  replace k := k.2
  refine wp_iaload dX11_copy_29 c6 c7 c8 (fun q => ?_)
  have f9 := q
  replace k := k q
  have c10 := k.1
  replace k := k.2
  have c11 := k.1
  replace k := k.2
  refine wp_iastore dX11_copy_30 c6 c10 c11 ?_
  refine wp_aload_n 0 dX11_copy_31 rfl ?_
  refine wp_getR (ci := 8) (j := 15) rfl (by decide) gX11_57 dX11_copy_32 c5 rfl ?_
  refine wp_iload 2 dX11_copy_35 rfl ?_
  refine wp_aload_n 0 dX11_copy_37 rfl ?_
  refine wp_getR (ci := 8) (j := 15) rfl (by decide) gX11_57 dX11_copy_38 c5 rfl ?_
  refine wp_iload 1 dX11_copy_41 rfl ?_
  have c12 := k.1
  replace k := k.2
  have c13 := k.1
  replace k := k.2
  refine wp_iaload dX11_copy_43 c12 c7 c13 (fun q => ?_)
  have f14 := q
  replace k := k q
  have c15 := k.1
  replace k := k.2
  refine wp_iastore dX11_copy_44 c12 c10 c15 ?_
  refine wp_aload_n 0 dX11_copy_45 rfl ?_
  refine wp_getR (ci := 8) (j := 16) rfl (by decide) gX11_60 dX11_copy_46 c5 rfl ?_
  refine wp_iconst dX11_copy_49 ⟨by decide, by decide⟩ ?_
  refine wp_iload 2 dX11_copy_50 rfl ?_
  have c16 := k.1
  replace k := k.2
  refine wp_imul dX11_copy_52 c16 ?_
  refine wp_aload_n 0 dX11_copy_53 rfl ?_
  refine wp_getR (ci := 8) (j := 16) rfl (by decide) gX11_60 dX11_copy_54 c5 rfl ?_
  refine wp_iconst dX11_copy_57 ⟨by decide, by decide⟩ ?_
  refine wp_iload 1 dX11_copy_58 rfl ?_
  have c17 := k.1
  replace k := k.2
  refine wp_imul dX11_copy_60 c17 ?_
  have c18 := k.1
  replace k := k.2
  have c19 := k.1
  replace k := k.2
  have c20 := k.1
  replace k := k.2
  refine wp_iaload dX11_copy_61 c18 c19 c20 (fun q => ?_)
  have f21 := q
  replace k := k q
  have c22 := k.1
  replace k := k.2
  have c23 := k.1
  replace k := k.2
  refine wp_iastore dX11_copy_62 c18 c22 c23 ?_
  refine wp_aload_n 0 dX11_copy_63 rfl ?_
  refine wp_getR (ci := 8) (j := 16) rfl (by decide) gX11_60 dX11_copy_64 c5 rfl ?_
  refine wp_iconst dX11_copy_67 ⟨by decide, by decide⟩ ?_
  refine wp_iload 2 dX11_copy_68 rfl ?_
  refine wp_imul dX11_copy_70 c16 ?_
  refine wp_iconst dX11_copy_71 ⟨by decide, by decide⟩ ?_
  have c24 := k.1
  replace k := k.2
  refine wp_iadd dX11_copy_72 c24 ?_
  refine wp_aload_n 0 dX11_copy_73 rfl ?_
  refine wp_getR (ci := 8) (j := 16) rfl (by decide) gX11_60 dX11_copy_74 c5 rfl ?_
  refine wp_iconst dX11_copy_77 ⟨by decide, by decide⟩ ?_
  refine wp_iload 1 dX11_copy_78 rfl ?_
  refine wp_imul dX11_copy_80 c17 ?_
  refine wp_iconst dX11_copy_81 ⟨by decide, by decide⟩ ?_
  have c25 := k.1
  replace k := k.2
  refine wp_iadd dX11_copy_82 c25 ?_
  have c26 := k.1
  replace k := k.2
  have c27 := k.1
  replace k := k.2
  refine wp_iaload dX11_copy_83 c18 c26 c27 (fun q => ?_)
  have f28 := q
  replace k := k q
  have c29 := k.1
  replace k := k.2
  have c30 := k.1
  replace k := k.2
  refine wp_iastore dX11_copy_84 c18 c29 c30 ?_
  refine wp_iconst dX11_copy_85 ⟨by decide, by decide⟩ ?_
  refine wp_istore [1, 2, 3, 0] (ls' := [(0, jR a0), (5, jI ((20 * a1) + a2)), (6, jI ((20 * a3) + a4)), (7, jI 0)]) dX11_copy_86 (by decide) rfl ?_
  exact k
theorem bX11_copy_88 {d : Nat} {h : jH} {Q : jO → jH → Prop} {a0 : Nat} {a5 : Int} {a6 : Int} {a7 : Int} (k : jOK h → j32 a5 → j32 a6 → j32 a7 → ((90 ≤ a7 → Q (.inl none) h) ∧ (¬ (90 ≤ a7) → hK h a0 = 9 ∧ j32 (90 * a6) ∧ j32 ((90 * a6) + a7) ∧ j32 (90 * a5) ∧ j32 ((90 * a5) + a7) ∧ hK h (hR h 817 a0) = 11 ∧ 0 ≤ ((90 * a5) + a7) ∧ ((90 * a5) + a7) < hN h (hR h 817 a0) ∧ ((-128 ≤ hA h (hR h 817 a0) ((90 * a5) + a7) ∧ hA h (hR h 817 a0) ((90 * a5) + a7) ≤ 127) → 0 ≤ ((90 * a6) + a7) ∧ ((90 * a6) + a7) < hN h (hR h 817 a0) ∧ (-128 ≤ (hA h (hR h 817 a0) ((90 * a5) + a7)) ∧ (hA h (hR h 817 a0) ((90 * a5) + a7)) ≤ 127) ∧ j32 (a7 + 1) ∧ jWp d mX11_copy 88 [(0, jR a0), (5, jI a5), (6, jI a6), (7, jI (a7 + 1))] [] (sA h (hR h 817 a0) ((90 * a6) + a7) (hA h (hR h 817 a0) ((90 * a5) + a7))) Q)))) : jWp d mX11_copy 88 [(0, jR a0), (5, jI a5), (6, jI a6), (7, jI a7)] [] h Q := by
  refine jw_ok (fun ok q => ?_)
  replace k := k ok (q _ (.tail _ (.head _))) (q _ (.tail _ (.tail _ (.head _)))) (q _ (.tail _ (.tail _ (.tail _ (.head _)))))
  refine wp_iload 3 dX11_copy_88 rfl ?_
  refine wp_bipush dX11_copy_90 ⟨by decide, by decide⟩ ?_
  refine wp_icmp_ge 127 dX11_copy_92 rfl (fun q => ?_) (fun q => ?_)
  · replace k := k.1 q
    exact wp_return dX11_copy_127 rfl k
  · replace k := k.2 q
    refine wp_aload_n 0 dX11_copy_95 rfl ?_
    have c1 := k.1
    replace k := k.2
    refine wp_getR (ci := 8) (j := 17) rfl (by decide) gX11_63 dX11_copy_96 c1 rfl ?_
    refine wp_bipush dX11_copy_99 ⟨by decide, by decide⟩ ?_
    refine wp_iload 2 dX11_copy_101 rfl ?_
    have c2 := k.1
    replace k := k.2
    refine wp_imul dX11_copy_103 c2 ?_
    refine wp_iload 3 dX11_copy_104 rfl ?_
    have c3 := k.1
    replace k := k.2
    refine wp_iadd dX11_copy_106 c3 ?_
    refine wp_aload_n 0 dX11_copy_107 rfl ?_
    refine wp_getR (ci := 8) (j := 17) rfl (by decide) gX11_63 dX11_copy_108 c1 rfl ?_
    refine wp_bipush dX11_copy_111 ⟨by decide, by decide⟩ ?_
    refine wp_iload 1 dX11_copy_113 rfl ?_
    have c4 := k.1
    replace k := k.2
    refine wp_imul dX11_copy_115 c4 ?_
    refine wp_iload 3 dX11_copy_116 rfl ?_
    have c5 := k.1
    replace k := k.2
    refine wp_iadd dX11_copy_118 c5 ?_
    have c6 := k.1
    replace k := k.2
    have c7 := k.1
    replace k := k.2
    have c8 := k.1
    replace k := k.2
    refine wp_baload dX11_copy_119 c6 c7 c8 (fun q => ?_)
    have f9 := q
    replace k := k q
    have c10 := k.1
    replace k := k.2
    have c11 := k.1
    replace k := k.2
    have c12 := k.1
    replace k := k.2
    refine wp_bastore dX11_copy_120 c6 c10 c11 c12 ?_
    have c13 := k.1
    replace k := k.2
    refine wp_iinc 3 [1, 2, 3, 0] (ls' := [(0, jR a0), (5, jI a5), (6, jI a6), (7, jI (a7 + 1))]) dX11_copy_121 rfl c13 ⟨by decide, by decide⟩ (by decide) rfl ?_
    refine wp_goto 88 dX11_copy_124 rfl ?_
    exact k
theorem bX11_copyAll {d : Nat} {h : jH} {Q : jO → jH → Prop} {a0 : Nat} {a1 : Int} {a2 : Int} (k : jOK h → j32 a1 → j32 a2 → jWp (d + 1) mX11_copyAll 2 [(0, jR a0), (1, jI a1), (2, jI a2), (3, jI 0)] [] h Q) : jCall (d + 1) mX11_copyAll [jR a0, jI a1, jI a2] h Q := by
  refine jCall_of plX11 (Nat.le_of_ble_eq_true rfl) ?_
  show jWp (d + 1) mX11_copyAll 0 [(0, jR a0), (1, jI a1), (2, jI a2)] [] h Q
  refine jw_ok (fun ok q => ?_)
  replace k := k ok (q _ (.tail _ (.head _))) (q _ (.tail _ (.tail _ (.head _))))
  refine wp_iconst dX11_copyAll_0 ⟨by decide, by decide⟩ ?_
  refine wp_istore_n [1, 2, 3, 0] (ls' := [(0, jR a0), (1, jI a1), (2, jI a2), (3, jI 0)]) dX11_copyAll_1 (by decide) rfl ?_
  exact k
theorem bX11_copyAll_2 {d : Nat} {h : jH} {Q : jO → jH → Prop} {a0 : Nat} {a1 : Int} {a2 : Int} {a3 : Int} (k : jOK h → j32 a1 → j32 a2 → j32 a3 → hK h a0 = 9 ∧ hK h (hR h 813 a0) = 10 ∧ 0 ≤ a1 ∧ a1 < hN h (hR h 813 a0) ∧ (j32 (hA h (hR h 813 a0) a1) → (((hA h (hR h 813 a0) a1) ≤ a3 → 0 ≤ a2 ∧ a2 < hN h (hR h 813 a0) ∧ (j32 (hA (sA h (hR h 813 a0) a2 (hA h (hR h 813 a0) a1)) (hR h 813 a0) a2) → Q (.inl (some (jI (hA (sA h (hR h 813 a0) a2 (hA h (hR h 813 a0) a1)) (hR h 813 a0) a2)))) (sA h (hR h 813 a0) a2 (hA h (hR h 813 a0) a1)))) ∧ (¬ ((hA h (hR h 813 a0) a1) ≤ a3) → jCall d mX11_copy [jR a0, jI a1, jI a3, jI a2, jI a3] h (fun o h17 => o = .inl none ∧ j32 (a3 + 1) ∧ jWp (d + 1) mX11_copyAll 2 [(0, jR a0), (1, jI a1), (2, jI a2), (3, jI (a3 + 1))] [] h17 Q))))) : jWp (d + 1) mX11_copyAll 2 [(0, jR a0), (1, jI a1), (2, jI a2), (3, jI a3)] [] h Q := by
  refine jw_ok (fun ok q => ?_)
  replace k := k ok (q _ (.tail _ (.head _))) (q _ (.tail _ (.tail _ (.head _)))) (q _ (.tail _ (.tail _ (.tail _ (.head _)))))
  refine wp_iload_n 3 dX11_copyAll_2 rfl ?_
  refine wp_aload_n 0 dX11_copyAll_3 rfl ?_
  have c1 := k.1
  replace k := k.2
  refine wp_getR (ci := 8) (j := 13) rfl (by decide) gX11_51 dX11_copyAll_4 c1 rfl ?_
  refine wp_iload_n 1 dX11_copyAll_7 rfl ?_
  have c2 := k.1
  replace k := k.2
  have c3 := k.1
  replace k := k.2
  have c4 := k.1
  replace k := k.2
  refine wp_iaload dX11_copyAll_8 c2 c3 c4 (fun q => ?_)
  have f5 := q
  replace k := k q
  refine wp_icmp_ge 26 dX11_copyAll_9 rfl (fun q => ?_) (fun q => ?_)
  · replace k := k.1 q
    refine wp_aload_n 0 dX11_copyAll_26 rfl ?_
    refine wp_getR (ci := 8) (j := 13) rfl (by decide) gX11_51 dX11_copyAll_27 c1 rfl ?_
    refine wp_iload_n 2 dX11_copyAll_30 rfl ?_
    refine wp_aload_n 0 dX11_copyAll_31 rfl ?_
    refine wp_getR (ci := 8) (j := 13) rfl (by decide) gX11_51 dX11_copyAll_32 c1 rfl ?_
    refine wp_iload_n 1 dX11_copyAll_35 rfl ?_
    refine wp_iaload dX11_copyAll_36 c2 c3 c4 (fun q => ?_)
    have c6 := k.1
    replace k := k.2
    have c7 := k.1
    replace k := k.2
    refine wp_iastore dX11_copyAll_37 c2 c6 c7 ?_
    refine wp_aload_n 0 dX11_copyAll_38 rfl ?_
    refine wp_getR (ci := 8) (j := 13) rfl (by decide) gX11_51 dX11_copyAll_39 c1 rfl ?_
    refine wp_iload_n 2 dX11_copyAll_42 rfl ?_
    refine wp_iaload dX11_copyAll_43 c2 c6 c7 (fun q => ?_)
    have f8 := q
    replace k := k q
    exact wp_iret dX11_copyAll_44 rfl k
  · replace k := k.2 q
    refine wp_aload_n 0 dX11_copyAll_12 rfl ?_
    refine wp_iload_n 1 dX11_copyAll_13 rfl ?_
    refine wp_iload_n 3 dX11_copyAll_14 rfl ?_
    refine wp_iload_n 2 dX11_copyAll_15 rfl ?_
    refine wp_iload_n 3 dX11_copyAll_16 rfl ?_
    refine wp_callV (ci := 8) (y' := mX11_copy) (st := []) [jI a1, jI a3, jI a2, jI a3] rfl rfl rfl fX11_copy kX11_293 nX11_copy dX11_copyAll_17 (Nat.le_of_ble_eq_true rfl) c1 ?_
    refine jCall.mono k (fun o h17 k => ?_)
    obtain ⟨e, k⟩ := k
    subst e
    show jWp (d + 1) mX11_copyAll 20 [(0, jR a0), (1, jI a1), (2, jI a2), (3, jI a3)] [] h17 Q
    have c9 := k.1
    replace k := k.2
    refine wp_iinc 3 [1, 2, 3, 0] (ls' := [(0, jR a0), (1, jI a1), (2, jI a2), (3, jI (a3 + 1))]) dX11_copyAll_20 rfl c9 ⟨by decide, by decide⟩ (by decide) rfl ?_
    refine wp_goto 2 dX11_copyAll_23 rfl ?_
    exact k
theorem bX11_feed {d : Nat} {h : jH} {Q : jO → jH → Prop} {a0 : Nat} {a1 : Int} {a2 : Int} {a3 : Int} {a4 : Int} {a5 : Int} (k : jOK h → j32 a1 → j32 a2 → j32 a3 → j32 a4 → j32 a5 → hK h a0 = 9 ∧ (j32 (hI (sI h 812 a0 0) 819 a0) → j32 ((hI (sI h 812 a0 0) 819 a0) + 20) ∧ ((((hI (sI h 812 a0 0) 819 a0) + 20) ≤ 600 → jWp d mX11_feed 23 [(0, jR a0), (1, jI a1), (2, jI a2), (3, jI a3), (4, jI a4), (5, jI a5), (6, jI 0)] [] (sI h 812 a0 0) Q) ∧ (¬ (((hI (sI h 812 a0 0) 819 a0) + 20) ≤ 600) → Q (.inl (some (jI (-1)))) (sI h 812 a0 0))))) : jCall d mX11_feed [jR a0, jI a1, jI a2, jI a3, jI a4, jI a5] h Q := by
  refine jCall_of plX11 (Nat.le_of_ble_eq_true rfl) ?_
  show jWp d mX11_feed 0 [(0, jR a0), (1, jI a1), (2, jI a2), (3, jI a3), (4, jI a4), (5, jI a5)] [] h Q
  refine jw_ok (fun ok q => ?_)
  replace k := k ok (q _ (.tail _ (.head _))) (q _ (.tail _ (.tail _ (.head _)))) (q _ (.tail _ (.tail _ (.tail _ (.head _))))) (q _ (.tail _ (.tail _ (.tail _ (.tail _ (.head _)))))) (q _ (.tail _ (.tail _ (.tail _ (.tail _ (.tail _ (.head _)))))))
  refine wp_aload_n 0 dX11_feed_0 rfl ?_
  refine wp_iconst dX11_feed_1 ⟨by decide, by decide⟩ ?_
  have c1 := k.1
  replace k := k.2
  refine wp_putI (ci := 8) (j := 12) rfl (by decide) gX11_48 dX11_feed_2 c1 (Or.inl rfl) rfl ?_
  refine wp_aload_n 0 dX11_feed_5 rfl ?_
  refine wp_getI (ci := 8) (j := 19) rfl (by decide) gX11_70 dX11_feed_6 c1 rfl (fun q => ?_)
  have f2 := q
  replace k := k q
  refine wp_bipush dX11_feed_9 ⟨by decide, by decide⟩ ?_
  have c3 := k.1
  replace k := k.2
  refine wp_iadd dX11_feed_11 c3 ?_
  refine wp_sipush dX11_feed_12 ⟨by decide, by decide⟩ ?_
  refine wp_icmp_le 20 dX11_feed_15 rfl (fun q => ?_) (fun q => ?_)
  · replace k := k.1 q
    refine wp_iconst dX11_feed_20 ⟨by decide, by decide⟩ ?_
    refine wp_istore [1, 2, 3, 4, 5, 6, 0] (ls' := [(0, jR a0), (1, jI a1), (2, jI a2), (3, jI a3), (4, jI a4), (5, jI a5), (6, jI 0)]) dX11_feed_21 (by decide) rfl ?_
    exact k
  · replace k := k.2 q
    refine wp_iconst dX11_feed_18 ⟨by decide, by decide⟩ ?_
    exact wp_iret dX11_feed_19 rfl k
theorem bX11_feed_23 {d : Nat} {h : jH} {Q : jO → jH → Prop} {a0 : Nat} {a1 : Int} {a2 : Int} {a3 : Int} {a4 : Int} {a5 : Int} {a6 : Int} (k : jOK h → j32 a1 → j32 a2 → j32 a3 → j32 a4 → j32 a5 → j32 a6 → ((4 ≤ a6 → hK h a0 = 9 ∧ (j32 (hI h 819 a0) → j32 ((hI h 819 a0) + 20) ∧ (j32 (hI (sI h 819 a0 ((hI h 819 a0) + 20)) 819 a0) → Q (.inl (some (jI (hI (sI h 819 a0 ((hI h 819 a0) + 20)) 819 a0)))) (sI h 819 a0 ((hI h 819 a0) + 20))))) ∧ (¬ (4 ≤ a6) → j32 (8 * a6) ∧ j32 (24 - (8 * a6)) ∧ hK h a0 = 9 ∧ (j32 (hI h 819 a0) → j32 ((hI h 819 a0) + a6) ∧ 0 ≤ (24 - (8 * a6)) ∧ (24 - (8 * a6)) < 32 ∧ hK h (hR h 818 a0) = 11 ∧ 0 ≤ ((hI h 819 a0) + a6) ∧ ((hI h 819 a0) + a6) < hN h (hR h 818 a0) ∧ j32 ((hI h 819 a0) + 4) ∧ j32 (((hI h 819 a0) + 4) + a6) ∧ 0 ≤ (((hI h 819 a0) + 4) + a6) ∧ (((hI h 819 a0) + 4) + a6) < hN h (hR h 818 a0) ∧ j32 ((hI h 819 a0) + 8) ∧ j32 (((hI h 819 a0) + 8) + a6) ∧ 0 ≤ (((hI h 819 a0) + 8) + a6) ∧ (((hI h 819 a0) + 8) + a6) < hN h (hR h 818 a0) ∧ j32 ((hI h 819 a0) + 12) ∧ j32 (((hI h 819 a0) + 12) + a6) ∧ 0 ≤ (((hI h 819 a0) + 12) + a6) ∧ (((hI h 819 a0) + 12) + a6) < hN h (hR h 818 a0) ∧ j32 ((hI h 819 a0) + 16) ∧ j32 (((hI h 819 a0) + 16) + a6) ∧ 0 ≤ (((hI h 819 a0) + 16) + a6) ∧ (((hI h 819 a0) + 16) + a6) < hN h (hR h 818 a0) ∧ j32 (a6 + 1) ∧ jWp d mX11_feed 23 [(0, jR a0), (1, jI a1), (2, jI a2), (3, jI a3), (4, jI a4), (5, jI a5), (6, jI (a6 + 1))] [] (sA (sA (sA (sA (sA h (hR h 818 a0) ((hI h 819 a0) + a6) (((a1 / 2 ^ (24 - (8 * a6)).toNat) + 128) % 256 - 128)) (hR h 818 a0) (((hI h 819 a0) + 4) + a6) (((a2 / 2 ^ (24 - (8 * a6)).toNat) + 128) % 256 - 128)) (hR h 818 a0) (((hI h 819 a0) + 8) + a6) (((a3 / 2 ^ (24 - (8 * a6)).toNat) + 128) % 256 - 128)) (hR h 818 a0) (((hI h 819 a0) + 12) + a6) (((a4 / 2 ^ (24 - (8 * a6)).toNat) + 128) % 256 - 128)) (hR h 818 a0) (((hI h 819 a0) + 16) + a6) (((a5 / 2 ^ (24 - (8 * a6)).toNat) + 128) % 256 - 128)) Q)))) : jWp d mX11_feed 23 [(0, jR a0), (1, jI a1), (2, jI a2), (3, jI a3), (4, jI a4), (5, jI a5), (6, jI a6)] [] h Q := by
  refine jw_ok (fun ok q => ?_)
  replace k := k ok (q _ (.tail _ (.head _))) (q _ (.tail _ (.tail _ (.head _)))) (q _ (.tail _ (.tail _ (.tail _ (.head _))))) (q _ (.tail _ (.tail _ (.tail _ (.tail _ (.head _)))))) (q _ (.tail _ (.tail _ (.tail _ (.tail _ (.tail _ (.head _))))))) (q _ (.tail _ (.tail _ (.tail _ (.tail _ (.tail _ (.tail _ (.head _))))))))
  refine wp_iload 6 dX11_feed_23 rfl ?_
  refine wp_iconst dX11_feed_25 ⟨by decide, by decide⟩ ?_
  refine wp_icmp_ge 143 dX11_feed_26 rfl (fun q => ?_) (fun q => ?_)
  · replace k := k.1 q
    refine wp_aload_n 0 dX11_feed_143 rfl ?_
    refine wp_dup dX11_feed_144 rfl ?_
    have c1 := k.1
    replace k := k.2
    refine wp_getI (ci := 8) (j := 19) rfl (by decide) gX11_70 dX11_feed_145 c1 rfl (fun q => ?_)
    have f2 := q
    replace k := k q
    refine wp_bipush dX11_feed_148 ⟨by decide, by decide⟩ ?_
    have c3 := k.1
    replace k := k.2
    refine wp_iadd dX11_feed_150 c3 ?_
    refine wp_putI (ci := 8) (j := 19) rfl (by decide) gX11_70 dX11_feed_151 c1 (Or.inl rfl) rfl ?_
    refine wp_aload_n 0 dX11_feed_154 rfl ?_
    refine wp_getI (ci := 8) (j := 19) rfl (by decide) gX11_70 dX11_feed_155 c1 rfl (fun q => ?_)
    have f4 := q
    replace k := k q
    exact wp_iret dX11_feed_158 rfl k
  · replace k := k.2 q
    refine wp_bipush dX11_feed_29 ⟨by decide, by decide⟩ ?_
    refine wp_bipush dX11_feed_31 ⟨by decide, by decide⟩ ?_
    refine wp_iload 6 dX11_feed_33 rfl ?_
    have c5 := k.1
    replace k := k.2
    refine wp_imul dX11_feed_35 c5 ?_
    have c6 := k.1
    replace k := k.2
    refine wp_isub dX11_feed_36 c6 ?_
    refine wp_istore [1, 2, 3, 4, 5, 6, 7, 0] (ls' := [(0, jR a0), (1, jI a1), (2, jI a2), (3, jI a3), (4, jI a4), (5, jI a5), (6, jI a6), (7, jI (24 - (8 * a6)))]) dX11_feed_37 (by decide) rfl ?_
    refine wp_aload_n 0 dX11_feed_39 rfl ?_
    have c7 := k.1
    replace k := k.2
    refine wp_getR (ci := 8) (j := 18) rfl (by decide) gX11_67 dX11_feed_40 c7 rfl ?_
    refine wp_aload_n 0 dX11_feed_43 rfl ?_
    refine wp_getI (ci := 8) (j := 19) rfl (by decide) gX11_70 dX11_feed_44 c7 rfl (fun q => ?_)
    have f8 := q
    replace k := k q
    refine wp_iload 6 dX11_feed_47 rfl ?_
    have c9 := k.1
    replace k := k.2
    refine wp_iadd dX11_feed_49 c9 ?_
    refine wp_iload_n 1 dX11_feed_50 rfl ?_
    refine wp_iload 7 dX11_feed_51 rfl ?_
    have c10 := k.1
    replace k := k.2
    have c11 := k.1
    replace k := k.2
    refine wp_ishr dX11_feed_53 c10 c11 ?_
    refine wp_i2b dX11_feed_54 ?_
    have c12 := k.1
    replace k := k.2
    have c13 := k.1
    replace k := k.2
    have c14 := k.1
    replace k := k.2
    refine wp_bastore dX11_feed_55 c12 c13 c14 ⟨by omega, by omega⟩ ?_
    refine wp_aload_n 0 dX11_feed_56 rfl ?_
    refine wp_getR (ci := 8) (j := 18) rfl (by decide) gX11_67 dX11_feed_57 c7 rfl ?_
    refine wp_aload_n 0 dX11_feed_60 rfl ?_
    refine wp_getI (ci := 8) (j := 19) rfl (by decide) gX11_70 dX11_feed_61 c7 rfl (fun q => ?_)
    refine wp_iconst dX11_feed_64 ⟨by decide, by decide⟩ ?_
    have c15 := k.1
    replace k := k.2
    refine wp_iadd dX11_feed_65 c15 ?_
    refine wp_iload 6 dX11_feed_66 rfl ?_
    have c16 := k.1
    replace k := k.2
    refine wp_iadd dX11_feed_68 c16 ?_
    refine wp_iload_n 2 dX11_feed_69 rfl ?_
    refine wp_iload 7 dX11_feed_70 rfl ?_
    refine wp_ishr dX11_feed_72 c10 c11 ?_
    refine wp_i2b dX11_feed_73 ?_
    have c17 := k.1
    replace k := k.2
    have c18 := k.1
    replace k := k.2
    refine wp_bastore dX11_feed_74 c12 c17 c18 ⟨by omega, by omega⟩ ?_
    refine wp_aload_n 0 dX11_feed_75 rfl ?_
    refine wp_getR (ci := 8) (j := 18) rfl (by decide) gX11_67 dX11_feed_76 c7 rfl ?_
    refine wp_aload_n 0 dX11_feed_79 rfl ?_
    refine wp_getI (ci := 8) (j := 19) rfl (by decide) gX11_70 dX11_feed_80 c7 rfl (fun q => ?_)
    refine wp_bipush dX11_feed_83 ⟨by decide, by decide⟩ ?_
    have c19 := k.1
    replace k := k.2
    refine wp_iadd dX11_feed_85 c19 ?_
    refine wp_iload 6 dX11_feed_86 rfl ?_
    have c20 := k.1
    replace k := k.2
    refine wp_iadd dX11_feed_88 c20 ?_
    refine wp_iload_n 3 dX11_feed_89 rfl ?_
    refine wp_iload 7 dX11_feed_90 rfl ?_
    refine wp_ishr dX11_feed_92 c10 c11 ?_
    refine wp_i2b dX11_feed_93 ?_
    have c21 := k.1
    replace k := k.2
    have c22 := k.1
    replace k := k.2
    refine wp_bastore dX11_feed_94 c12 c21 c22 ⟨by omega, by omega⟩ ?_
    refine wp_aload_n 0 dX11_feed_95 rfl ?_
    refine wp_getR (ci := 8) (j := 18) rfl (by decide) gX11_67 dX11_feed_96 c7 rfl ?_
    refine wp_aload_n 0 dX11_feed_99 rfl ?_
    refine wp_getI (ci := 8) (j := 19) rfl (by decide) gX11_70 dX11_feed_100 c7 rfl (fun q => ?_)
    refine wp_bipush dX11_feed_103 ⟨by decide, by decide⟩ ?_
    have c23 := k.1
    replace k := k.2
    refine wp_iadd dX11_feed_105 c23 ?_
    refine wp_iload 6 dX11_feed_106 rfl ?_
    have c24 := k.1
    replace k := k.2
    refine wp_iadd dX11_feed_108 c24 ?_
    refine wp_iload 4 dX11_feed_109 rfl ?_
    refine wp_iload 7 dX11_feed_111 rfl ?_
    refine wp_ishr dX11_feed_113 c10 c11 ?_
    refine wp_i2b dX11_feed_114 ?_
    have c25 := k.1
    replace k := k.2
    have c26 := k.1
    replace k := k.2
    refine wp_bastore dX11_feed_115 c12 c25 c26 ⟨by omega, by omega⟩ ?_
    refine wp_aload_n 0 dX11_feed_116 rfl ?_
    refine wp_getR (ci := 8) (j := 18) rfl (by decide) gX11_67 dX11_feed_117 c7 rfl ?_
    refine wp_aload_n 0 dX11_feed_120 rfl ?_
    refine wp_getI (ci := 8) (j := 19) rfl (by decide) gX11_70 dX11_feed_121 c7 rfl (fun q => ?_)
    refine wp_bipush dX11_feed_124 ⟨by decide, by decide⟩ ?_
    have c27 := k.1
    replace k := k.2
    refine wp_iadd dX11_feed_126 c27 ?_
    refine wp_iload 6 dX11_feed_127 rfl ?_
    have c28 := k.1
    replace k := k.2
    refine wp_iadd dX11_feed_129 c28 ?_
    refine wp_iload 5 dX11_feed_130 rfl ?_
    refine wp_iload 7 dX11_feed_132 rfl ?_
    refine wp_ishr dX11_feed_134 c10 c11 ?_
    refine wp_i2b dX11_feed_135 ?_
    have c29 := k.1
    replace k := k.2
    have c30 := k.1
    replace k := k.2
    refine wp_bastore dX11_feed_136 c12 c29 c30 ⟨by omega, by omega⟩ ?_
    have c31 := k.1
    replace k := k.2
    refine wp_iinc 6 [1, 2, 3, 4, 5, 6, 0] (ls' := [(0, jR a0), (1, jI a1), (2, jI a2), (3, jI a3), (4, jI a4), (5, jI a5), (6, jI (a6 + 1))]) dX11_feed_137 rfl c31 ⟨by decide, by decide⟩ (by decide) rfl ?_
    refine wp_goto 23 dX11_feed_140 rfl ?_
    exact k
theorem bX11_end {d : Nat} {h : jH} {Q : jO → jH → Prop} {a0 : Nat} {a1 : Int} (k : jOK h → j32 a1 → hK h a0 = 9 ∧ ((a1 < 0 → Q (.inl (some (jI 0))) (sI h 812 a0 0)) ∧ (¬ (a1 < 0) → (j32 (hI (sI h 812 a0 0) 819 a0) → ((a1 ≤ (hI (sI h 812 a0 0) 819 a0) → Q (.inl (some (jI 1))) (sI (sI h 812 a0 0) 819 a0 a1)) ∧ (¬ (a1 ≤ (hI (sI h 812 a0 0) 819 a0)) → Q (.inl (some (jI 0))) (sI h 812 a0 0))))))) : jCall d mX11_end [jR a0, jI a1] h Q := by
  refine jCall_of plX11 (Nat.le_of_ble_eq_true rfl) ?_
  show jWp d mX11_end 0 [(0, jR a0), (1, jI a1)] [] h Q
  refine jw_ok (fun ok q => ?_)
  replace k := k ok (q _ (.tail _ (.head _)))
  refine wp_aload_n 0 dX11_end_0 rfl ?_
  refine wp_iconst dX11_end_1 ⟨by decide, by decide⟩ ?_
  have c1 := k.1
  replace k := k.2
  refine wp_putI (ci := 8) (j := 12) rfl (by decide) gX11_48 dX11_end_2 c1 (Or.inl rfl) rfl ?_
  refine wp_iload_n 1 dX11_end_5 rfl ?_
  refine wp_if_lt 17 dX11_end_6 rfl (fun q => ?_) (fun q => ?_)
  · replace k := k.1 q
    refine wp_iconst dX11_end_17 ⟨by decide, by decide⟩ ?_
    exact wp_zreturn dX11_end_18 rfl (by decide) (by decide) k
  · replace k := k.2 q
    refine wp_iload_n 1 dX11_end_9 rfl ?_
    refine wp_aload_n 0 dX11_end_10 rfl ?_
    refine wp_getI (ci := 8) (j := 19) rfl (by decide) gX11_70 dX11_end_11 c1 rfl (fun q => ?_)
    have f2 := q
    replace k := k q
    refine wp_icmp_le 19 dX11_end_14 rfl (fun q => ?_) (fun q => ?_)
    · replace k := k.1 q
      refine wp_aload_n 0 dX11_end_19 rfl ?_
      refine wp_iload_n 1 dX11_end_20 rfl ?_
      refine wp_putI (ci := 8) (j := 19) rfl (by decide) gX11_70 dX11_end_21 c1 (Or.inl rfl) rfl ?_
      refine wp_iconst dX11_end_24 ⟨by decide, by decide⟩ ?_
      exact wp_zreturn dX11_end_25 rfl (by decide) (by decide) k
    · replace k := k.2 q
      refine wp_iconst dX11_end_17 ⟨by decide, by decide⟩ ?_
      exact wp_zreturn dX11_end_18 rfl (by decide) (by decide) k
theorem bX11_take {d : Nat} {h : jH} {Q : jO → jH → Prop} {a0 : Nat} (k : jOK h → hK h a0 = 9 ∧ (j32 (hI (sI h 812 a0 0) 833 a0) → ((600 ≤ (hI (sI h 812 a0 0) 833 a0) → jWp d mX11_take 31 [(0, jR a0), (1, jI 0)] [] (sI (sI h 812 a0 0) 819 a0 600) Q) ∧ (¬ (600 ≤ (hI (sI h 812 a0 0) 833 a0)) → jWp d mX11_take 31 [(0, jR a0), (1, jI 0)] [] (sI (sI h 812 a0 0) 819 a0 (hI (sI h 812 a0 0) 833 a0)) Q)))) : jCall d mX11_take [jR a0] h Q := by
  refine jCall_of plX11 (Nat.le_of_ble_eq_true rfl) ?_
  show jWp d mX11_take 0 [(0, jR a0)] [] h Q
  refine jw_ok (fun ok q => ?_)
  replace k := k ok 
  refine wp_aload_n 0 dX11_take_0 rfl ?_
  refine wp_iconst dX11_take_1 ⟨by decide, by decide⟩ ?_
  have c1 := k.1
  replace k := k.2
  refine wp_putI (ci := 8) (j := 12) rfl (by decide) gX11_48 dX11_take_2 c1 (Or.inl rfl) rfl ?_
  refine wp_aload_n 0 dX11_take_5 rfl ?_
  refine wp_aload_n 0 dX11_take_6 rfl ?_
  refine wp_getI (ci := 8) (j := 33) rfl (by decide) gX11_113 dX11_take_7 c1 rfl (fun q => ?_)
  have f2 := q
  replace k := k q
  refine wp_sipush dX11_take_10 ⟨by decide, by decide⟩ ?_
  refine wp_icmp_ge 23 dX11_take_13 rfl (fun q => ?_) (fun q => ?_)
  · replace k := k.1 q
    refine wp_sipush dX11_take_23 ⟨by decide, by decide⟩ ?_
    refine wp_putI (ci := 8) (j := 19) rfl (by decide) gX11_70 dX11_take_26 c1 (Or.inl rfl) rfl ?_
    refine wp_iconst dX11_take_29 ⟨by decide, by decide⟩ ?_
    refine wp_istore_n [1, 0] (ls' := [(0, jR a0), (1, jI 0)]) dX11_take_30 (by decide) rfl ?_
    exact k
  · replace k := k.2 q
    refine wp_aload_n 0 dX11_take_16 rfl ?_
    refine wp_getI (ci := 8) (j := 33) rfl (by decide) gX11_113 dX11_take_17 c1 rfl (fun q => ?_)
    refine wp_goto 26 dX11_take_20 rfl ?_
    refine wp_putI (ci := 8) (j := 19) rfl (by decide) gX11_70 dX11_take_26 c1 (Or.inl rfl) rfl ?_
    refine wp_iconst dX11_take_29 ⟨by decide, by decide⟩ ?_
    refine wp_istore_n [1, 0] (ls' := [(0, jR a0), (1, jI 0)]) dX11_take_30 (by decide) rfl ?_
    exact k
theorem bX11_take_31 {d : Nat} {h : jH} {Q : jO → jH → Prop} {a0 : Nat} {a1 : Int} (k : jOK h → j32 a1 → hK h a0 = 9 ∧ (j32 (hI h 819 a0) → (((hI h 819 a0) ≤ a1 → Q (.inl (some (jI (hI h 819 a0)))) h) ∧ (¬ ((hI h 819 a0) ≤ a1) → hK h (hR h 832 a0) = 11 ∧ 0 ≤ a1 ∧ a1 < hN h (hR h 832 a0) ∧ ((-128 ≤ hA h (hR h 832 a0) a1 ∧ hA h (hR h 832 a0) a1 ≤ 127) → hK h (hR h 818 a0) = 11 ∧ a1 < hN h (hR h 818 a0) ∧ (-128 ≤ (hA h (hR h 832 a0) a1) ∧ (hA h (hR h 832 a0) a1) ≤ 127) ∧ j32 (a1 + 1) ∧ jWp d mX11_take 31 [(0, jR a0), (1, jI (a1 + 1))] [] (sA h (hR h 818 a0) a1 (hA h (hR h 832 a0) a1)) Q))))) : jWp d mX11_take 31 [(0, jR a0), (1, jI a1)] [] h Q := by
  refine jw_ok (fun ok q => ?_)
  replace k := k ok (q _ (.tail _ (.head _)))
  refine wp_iload_n 1 dX11_take_31 rfl ?_
  refine wp_aload_n 0 dX11_take_32 rfl ?_
  have c1 := k.1
  replace k := k.2
  refine wp_getI (ci := 8) (j := 19) rfl (by decide) gX11_70 dX11_take_33 c1 rfl (fun q => ?_)
  have f2 := q
  replace k := k q
  refine wp_icmp_ge 57 dX11_take_36 rfl (fun q => ?_) (fun q => ?_)
  · replace k := k.1 q
    refine wp_aload_n 0 dX11_take_57 rfl ?_
    refine wp_getI (ci := 8) (j := 19) rfl (by decide) gX11_70 dX11_take_58 c1 rfl (fun q => ?_)
    exact wp_iret dX11_take_61 rfl k
  · replace k := k.2 q
    refine wp_aload_n 0 dX11_take_39 rfl ?_
    refine wp_getR (ci := 8) (j := 18) rfl (by decide) gX11_67 dX11_take_40 c1 rfl ?_
    refine wp_iload_n 1 dX11_take_43 rfl ?_
    refine wp_aload_n 0 dX11_take_44 rfl ?_
    refine wp_getR (ci := 8) (j := 32) rfl (by decide) gX11_110 dX11_take_45 c1 rfl ?_
    refine wp_iload_n 1 dX11_take_48 rfl ?_
    have c3 := k.1
    replace k := k.2
    have c4 := k.1
    replace k := k.2
    have c5 := k.1
    replace k := k.2
    refine wp_baload dX11_take_49 c3 c4 c5 (fun q => ?_)
    have f6 := q
    replace k := k q
    have c7 := k.1
    replace k := k.2
    have c8 := k.1
    replace k := k.2
    have c9 := k.1
    replace k := k.2
    refine wp_bastore dX11_take_50 c7 c4 c8 c9 ?_
    have c10 := k.1
    replace k := k.2
    refine wp_iinc 1 [1, 0] (ls' := [(0, jR a0), (1, jI (a1 + 1))]) dX11_take_51 rfl c10 ⟨by decide, by decide⟩ (by decide) rfl ?_
    refine wp_goto 31 dX11_take_54 rfl ?_
    exact k
theorem bX11_clock {d : Nat} {h : jH} {Q : jO → jH → Prop} {a0 : Nat} {a1 : Int} (k : jOK h → j32 a1 → hK h a0 = 9 ∧ ((a1 < 1950 → Q (.inl (some (jI 0))) (sI h 812 a0 0)) ∧ (¬ (a1 < 1950) → ((a1 ≤ 2200 → Q (.inl (some (jI 1))) (sI (sI h 812 a0 0) 822 a0 a1)) ∧ (¬ (a1 ≤ 2200) → Q (.inl (some (jI 0))) (sI h 812 a0 0)))))) : jCall d mX11_clock [jR a0, jI a1] h Q := by
  refine jCall_of plX11 (Nat.le_of_ble_eq_true rfl) ?_
  show jWp d mX11_clock 0 [(0, jR a0), (1, jI a1)] [] h Q
  refine jw_ok (fun ok q => ?_)
  replace k := k ok (q _ (.tail _ (.head _)))
  refine wp_aload_n 0 dX11_clock_0 rfl ?_
  refine wp_iconst dX11_clock_1 ⟨by decide, by decide⟩ ?_
  have c1 := k.1
  replace k := k.2
  refine wp_putI (ci := 8) (j := 12) rfl (by decide) gX11_48 dX11_clock_2 c1 (Or.inl rfl) rfl ?_
  refine wp_iload_n 1 dX11_clock_5 rfl ?_
  refine wp_sipush dX11_clock_6 ⟨by decide, by decide⟩ ?_
  refine wp_icmp_lt 19 dX11_clock_9 rfl (fun q => ?_) (fun q => ?_)
  · replace k := k.1 q
    refine wp_iconst dX11_clock_19 ⟨by decide, by decide⟩ ?_
    exact wp_zreturn dX11_clock_20 rfl (by decide) (by decide) k
  · replace k := k.2 q
    refine wp_iload_n 1 dX11_clock_12 rfl ?_
    refine wp_sipush dX11_clock_13 ⟨by decide, by decide⟩ ?_
    refine wp_icmp_le 21 dX11_clock_16 rfl (fun q => ?_) (fun q => ?_)
    · replace k := k.1 q
      refine wp_aload_n 0 dX11_clock_21 rfl ?_
      refine wp_iload_n 1 dX11_clock_22 rfl ?_
      refine wp_putI (ci := 8) (j := 22) rfl (by decide) gX11_79 dX11_clock_23 c1 (Or.inl rfl) rfl ?_
      refine wp_iconst dX11_clock_26 ⟨by decide, by decide⟩ ?_
      exact wp_zreturn dX11_clock_27 rfl (by decide) (by decide) k
    · replace k := k.2 q
      refine wp_iconst dX11_clock_19 ⟨by decide, by decide⟩ ?_
      exact wp_zreturn dX11_clock_20 rfl (by decide) (by decide) k
theorem bX11_fault {d : Nat} {h : jH} {Q : jO → jH → Prop} {a0 : Nat} {a1 : Int} {a2 : Int} (k : jOK h → j32 a1 → j32 a2 → hK h a0 = 9 ∧ Q (.inl (some (jI 0))) (sI (sI h 823 a0 a1) 824 a0 a2)) : jCall d mX11_fault [jR a0, jI a1, jI a2] h Q := by
  refine jCall_of plX11 (Nat.le_of_ble_eq_true rfl) ?_
  show jWp d mX11_fault 0 [(0, jR a0), (1, jI a1), (2, jI a2)] [] h Q
  refine jw_ok (fun ok q => ?_)
  replace k := k ok (q _ (.tail _ (.head _))) (q _ (.tail _ (.tail _ (.head _))))
  refine wp_aload_n 0 dX11_fault_0 rfl ?_
  refine wp_iload_n 1 dX11_fault_1 rfl ?_
  have c1 := k.1
  replace k := k.2
  refine wp_putI (ci := 8) (j := 23) rfl (by decide) gX11_82 dX11_fault_2 c1 (Or.inl rfl) rfl ?_
  refine wp_aload_n 0 dX11_fault_5 rfl ?_
  refine wp_iload_n 2 dX11_fault_6 rfl ?_
  refine wp_putI (ci := 8) (j := 24) rfl (by decide) gX11_85 dX11_fault_7 c1 (Or.inl rfl) rfl ?_
  refine wp_iconst dX11_fault_10 ⟨by decide, by decide⟩ ?_
  exact wp_zreturn dX11_fault_11 rfl (by decide) (by decide) k
theorem bX11_here {d : Nat} {h : jH} {Q : jO → jH → Prop} {a0 : Nat} {a1 : Int} (k : jOK h → j32 a1 → hK h a0 = 9 ∧ (j32 (hI h 821 a0) → (((hI h 821 a0) ≤ a1 → Q (.inl (some (jI (-1)))) h) ∧ (¬ ((hI h 821 a0) ≤ a1) → hK h (hR h 820 a0) = 11 ∧ 0 ≤ a1 ∧ a1 < hN h (hR h 820 a0) ∧ ((-128 ≤ hA h (hR h 820 a0) a1 ∧ hA h (hR h 820 a0) a1 ≤ 127) → Q (.inl (some (jI ((hA h (hR h 820 a0) a1) % 256)))) h))))) : jCall d mX11_here [jR a0, jI a1] h Q := by
  refine jCall_of plX11 (Nat.le_of_ble_eq_true rfl) ?_
  show jWp d mX11_here 0 [(0, jR a0), (1, jI a1)] [] h Q
  refine jw_ok (fun ok q => ?_)
  replace k := k ok (q _ (.tail _ (.head _)))
  refine wp_iload_n 1 dX11_here_0 rfl ?_
  refine wp_aload_n 0 dX11_here_1 rfl ?_
  have c1 := k.1
  replace k := k.2
  refine wp_getI (ci := 8) (j := 21) rfl (by decide) gX11_76 dX11_here_2 c1 rfl (fun q => ?_)
  have f2 := q
  replace k := k q
  refine wp_icmp_ge 21 dX11_here_5 rfl (fun q => ?_) (fun q => ?_)
  · replace k := k.1 q
    refine wp_iconst dX11_here_21 ⟨by decide, by decide⟩ ?_
    exact wp_iret dX11_here_22 rfl k
  · replace k := k.2 q
    refine wp_aload_n 0 dX11_here_8 rfl ?_
    refine wp_getR (ci := 8) (j := 20) rfl (by decide) gX11_73 dX11_here_9 c1 rfl ?_
    refine wp_iload_n 1 dX11_here_12 rfl ?_
    have c3 := k.1
    replace k := k.2
    have c4 := k.1
    replace k := k.2
    have c5 := k.1
    replace k := k.2
    refine wp_baload dX11_here_13 c3 c4 c5 (fun q => ?_)
    have f6 := q
    replace k := k q
    refine wp_sipush dX11_here_14 ⟨by decide, by decide⟩ ?_
    refine wp_iand255 dX11_here_17 ?_
    refine wp_goto 22 dX11_here_18 rfl ?_
    exact wp_iret dX11_here_22 rfl k
theorem bX11_isSign {d : Nat} {h : jH} {Q : jO → jH → Prop} {a0 : Int} (k : jOK h → j32 a0 → ((a0 = 33 → jWp d mX11_isSign 59 [] [jI 1] h Q) ∧ (¬ (a0 = 33) → ((a0 = 34 → jWp d mX11_isSign 59 [] [jI 1] h Q) ∧ (¬ (a0 = 34) → ((a0 < 37 → ((a0 = 95 → jWp d mX11_isSign 59 [] [jI 1] h Q) ∧ (¬ (a0 = 95) → ((a0 < 65 → ((a0 < 97 → jWp d mX11_isSign 59 [] [jI 0] h Q) ∧ (¬ (a0 < 97) → ((122 < a0 → jWp d mX11_isSign 59 [] [jI 0] h Q) ∧ (¬ (122 < a0) → jWp d mX11_isSign 59 [] [jI 1] h Q))))) ∧ (¬ (a0 < 65) → ((a0 ≤ 90 → jWp d mX11_isSign 59 [] [jI 1] h Q) ∧ (¬ (a0 ≤ 90) → ((a0 < 97 → jWp d mX11_isSign 59 [] [jI 0] h Q) ∧ (¬ (a0 < 97) → ((122 < a0 → jWp d mX11_isSign 59 [] [jI 0] h Q) ∧ (¬ (122 < a0) → jWp d mX11_isSign 59 [] [jI 1] h Q))))))))))) ∧ (¬ (a0 < 37) → ((a0 ≤ 63 → jWp d mX11_isSign 59 [] [jI 1] h Q) ∧ (¬ (a0 ≤ 63) → ((a0 = 95 → jWp d mX11_isSign 59 [] [jI 1] h Q) ∧ (¬ (a0 = 95) → ((a0 < 65 → ((a0 < 97 → jWp d mX11_isSign 59 [] [jI 0] h Q) ∧ (¬ (a0 < 97) → ((122 < a0 → jWp d mX11_isSign 59 [] [jI 0] h Q) ∧ (¬ (122 < a0) → jWp d mX11_isSign 59 [] [jI 1] h Q))))) ∧ (¬ (a0 < 65) → ((a0 ≤ 90 → jWp d mX11_isSign 59 [] [jI 1] h Q) ∧ (¬ (a0 ≤ 90) → ((a0 < 97 → jWp d mX11_isSign 59 [] [jI 0] h Q) ∧ (¬ (a0 < 97) → ((122 < a0 → jWp d mX11_isSign 59 [] [jI 0] h Q) ∧ (¬ (122 < a0) → jWp d mX11_isSign 59 [] [jI 1] h Q))))))))))))))))))) : jCall d mX11_isSign [jI a0] h Q := by
  refine jCall_of plX11 (Nat.le_of_ble_eq_true rfl) ?_
  show jWp d mX11_isSign 0 [(0, jI a0)] [] h Q
  refine jw_ok (fun ok q => ?_)
  replace k := k ok (q _ (.head _))
  refine wp_iload_n 0 dX11_isSign_0 rfl ?_
  refine wp_bipush dX11_isSign_1 ⟨by decide, by decide⟩ ?_
  refine wp_icmp_eq 54 dX11_isSign_3 rfl (fun q => ?_) (fun q => ?_)
  · replace k := k.1 q
    refine wp_iconst dX11_isSign_54 ⟨by decide, by decide⟩ ?_
    refine wp_goto 59 dX11_isSign_55 rfl ?_
    refine wp_sub [] (ls' := []) rfl ?_
    exact k
  · replace k := k.2 q
    refine wp_iload_n 0 dX11_isSign_6 rfl ?_
    refine wp_bipush dX11_isSign_7 ⟨by decide, by decide⟩ ?_
    refine wp_icmp_eq 54 dX11_isSign_9 rfl (fun q => ?_) (fun q => ?_)
    · replace k := k.1 q
      refine wp_iconst dX11_isSign_54 ⟨by decide, by decide⟩ ?_
      refine wp_goto 59 dX11_isSign_55 rfl ?_
      refine wp_sub [] (ls' := []) rfl ?_
      exact k
    · replace k := k.2 q
      refine wp_iload_n 0 dX11_isSign_12 rfl ?_
      refine wp_bipush dX11_isSign_13 ⟨by decide, by decide⟩ ?_
      refine wp_icmp_lt 24 dX11_isSign_15 rfl (fun q => ?_) (fun q => ?_)
      · replace k := k.1 q
        refine wp_iload_n 0 dX11_isSign_24 rfl ?_
        refine wp_bipush dX11_isSign_25 ⟨by decide, by decide⟩ ?_
        refine wp_icmp_eq 54 dX11_isSign_27 rfl (fun q => ?_) (fun q => ?_)
        · replace k := k.1 q
          refine wp_iconst dX11_isSign_54 ⟨by decide, by decide⟩ ?_
          refine wp_goto 59 dX11_isSign_55 rfl ?_
          refine wp_sub [] (ls' := []) rfl ?_
          exact k
        · replace k := k.2 q
          refine wp_iload_n 0 dX11_isSign_30 rfl ?_
          refine wp_bipush dX11_isSign_31 ⟨by decide, by decide⟩ ?_
          refine wp_icmp_lt 42 dX11_isSign_33 rfl (fun q => ?_) (fun q => ?_)
          · replace k := k.1 q
            refine wp_iload_n 0 dX11_isSign_42 rfl ?_
            refine wp_bipush dX11_isSign_43 ⟨by decide, by decide⟩ ?_
            refine wp_icmp_lt 58 dX11_isSign_45 rfl (fun q => ?_) (fun q => ?_)
            · replace k := k.1 q
              refine wp_iconst dX11_isSign_58 ⟨by decide, by decide⟩ ?_
              refine wp_sub [] (ls' := []) rfl ?_
              exact k
            · replace k := k.2 q
              refine wp_iload_n 0 dX11_isSign_48 rfl ?_
              refine wp_bipush dX11_isSign_49 ⟨by decide, by decide⟩ ?_
              refine wp_icmp_gt 58 dX11_isSign_51 rfl (fun q => ?_) (fun q => ?_)
              · replace k := k.1 q
                refine wp_iconst dX11_isSign_58 ⟨by decide, by decide⟩ ?_
                refine wp_sub [] (ls' := []) rfl ?_
                exact k
              · replace k := k.2 q
                refine wp_iconst dX11_isSign_54 ⟨by decide, by decide⟩ ?_
                refine wp_goto 59 dX11_isSign_55 rfl ?_
                refine wp_sub [] (ls' := []) rfl ?_
                exact k
          · replace k := k.2 q
            refine wp_iload_n 0 dX11_isSign_36 rfl ?_
            refine wp_bipush dX11_isSign_37 ⟨by decide, by decide⟩ ?_
            refine wp_icmp_le 54 dX11_isSign_39 rfl (fun q => ?_) (fun q => ?_)
            · replace k := k.1 q
              refine wp_iconst dX11_isSign_54 ⟨by decide, by decide⟩ ?_
              refine wp_goto 59 dX11_isSign_55 rfl ?_
              refine wp_sub [] (ls' := []) rfl ?_
              exact k
            · replace k := k.2 q
              refine wp_iload_n 0 dX11_isSign_42 rfl ?_
              refine wp_bipush dX11_isSign_43 ⟨by decide, by decide⟩ ?_
              refine wp_icmp_lt 58 dX11_isSign_45 rfl (fun q => ?_) (fun q => ?_)
              · replace k := k.1 q
                refine wp_iconst dX11_isSign_58 ⟨by decide, by decide⟩ ?_
                refine wp_sub [] (ls' := []) rfl ?_
                exact k
              · replace k := k.2 q
                refine wp_iload_n 0 dX11_isSign_48 rfl ?_
                refine wp_bipush dX11_isSign_49 ⟨by decide, by decide⟩ ?_
                refine wp_icmp_gt 58 dX11_isSign_51 rfl (fun q => ?_) (fun q => ?_)
                · replace k := k.1 q
                  refine wp_iconst dX11_isSign_58 ⟨by decide, by decide⟩ ?_
                  refine wp_sub [] (ls' := []) rfl ?_
                  exact k
                · replace k := k.2 q
                  refine wp_iconst dX11_isSign_54 ⟨by decide, by decide⟩ ?_
                  refine wp_goto 59 dX11_isSign_55 rfl ?_
                  refine wp_sub [] (ls' := []) rfl ?_
                  exact k
      · replace k := k.2 q
        refine wp_iload_n 0 dX11_isSign_18 rfl ?_
        refine wp_bipush dX11_isSign_19 ⟨by decide, by decide⟩ ?_
        refine wp_icmp_le 54 dX11_isSign_21 rfl (fun q => ?_) (fun q => ?_)
        · replace k := k.1 q
          refine wp_iconst dX11_isSign_54 ⟨by decide, by decide⟩ ?_
          refine wp_goto 59 dX11_isSign_55 rfl ?_
          refine wp_sub [] (ls' := []) rfl ?_
          exact k
        · replace k := k.2 q
          refine wp_iload_n 0 dX11_isSign_24 rfl ?_
          refine wp_bipush dX11_isSign_25 ⟨by decide, by decide⟩ ?_
          refine wp_icmp_eq 54 dX11_isSign_27 rfl (fun q => ?_) (fun q => ?_)
          · replace k := k.1 q
            refine wp_iconst dX11_isSign_54 ⟨by decide, by decide⟩ ?_
            refine wp_goto 59 dX11_isSign_55 rfl ?_
            refine wp_sub [] (ls' := []) rfl ?_
            exact k
          · replace k := k.2 q
            refine wp_iload_n 0 dX11_isSign_30 rfl ?_
            refine wp_bipush dX11_isSign_31 ⟨by decide, by decide⟩ ?_
            refine wp_icmp_lt 42 dX11_isSign_33 rfl (fun q => ?_) (fun q => ?_)
            · replace k := k.1 q
              refine wp_iload_n 0 dX11_isSign_42 rfl ?_
              refine wp_bipush dX11_isSign_43 ⟨by decide, by decide⟩ ?_
              refine wp_icmp_lt 58 dX11_isSign_45 rfl (fun q => ?_) (fun q => ?_)
              · replace k := k.1 q
                refine wp_iconst dX11_isSign_58 ⟨by decide, by decide⟩ ?_
                refine wp_sub [] (ls' := []) rfl ?_
                exact k
              · replace k := k.2 q
                refine wp_iload_n 0 dX11_isSign_48 rfl ?_
                refine wp_bipush dX11_isSign_49 ⟨by decide, by decide⟩ ?_
                refine wp_icmp_gt 58 dX11_isSign_51 rfl (fun q => ?_) (fun q => ?_)
                · replace k := k.1 q
                  refine wp_iconst dX11_isSign_58 ⟨by decide, by decide⟩ ?_
                  refine wp_sub [] (ls' := []) rfl ?_
                  exact k
                · replace k := k.2 q
                  refine wp_iconst dX11_isSign_54 ⟨by decide, by decide⟩ ?_
                  refine wp_goto 59 dX11_isSign_55 rfl ?_
                  refine wp_sub [] (ls' := []) rfl ?_
                  exact k
            · replace k := k.2 q
              refine wp_iload_n 0 dX11_isSign_36 rfl ?_
              refine wp_bipush dX11_isSign_37 ⟨by decide, by decide⟩ ?_
              refine wp_icmp_le 54 dX11_isSign_39 rfl (fun q => ?_) (fun q => ?_)
              · replace k := k.1 q
                refine wp_iconst dX11_isSign_54 ⟨by decide, by decide⟩ ?_
                refine wp_goto 59 dX11_isSign_55 rfl ?_
                refine wp_sub [] (ls' := []) rfl ?_
                exact k
              · replace k := k.2 q
                refine wp_iload_n 0 dX11_isSign_42 rfl ?_
                refine wp_bipush dX11_isSign_43 ⟨by decide, by decide⟩ ?_
                refine wp_icmp_lt 58 dX11_isSign_45 rfl (fun q => ?_) (fun q => ?_)
                · replace k := k.1 q
                  refine wp_iconst dX11_isSign_58 ⟨by decide, by decide⟩ ?_
                  refine wp_sub [] (ls' := []) rfl ?_
                  exact k
                · replace k := k.2 q
                  refine wp_iload_n 0 dX11_isSign_48 rfl ?_
                  refine wp_bipush dX11_isSign_49 ⟨by decide, by decide⟩ ?_
                  refine wp_icmp_gt 58 dX11_isSign_51 rfl (fun q => ?_) (fun q => ?_)
                  · replace k := k.1 q
                    refine wp_iconst dX11_isSign_58 ⟨by decide, by decide⟩ ?_
                    refine wp_sub [] (ls' := []) rfl ?_
                    exact k
                  · replace k := k.2 q
                    refine wp_iconst dX11_isSign_54 ⟨by decide, by decide⟩ ?_
                    refine wp_goto 59 dX11_isSign_55 rfl ?_
                    refine wp_sub [] (ls' := []) rfl ?_
                    exact k
theorem bX11_isSign_59 {d : Nat} {h : jH} {Q : jO → jH → Prop} {s0 : Int} (k : jOK h → (0 ≤ s0 ∧ s0 ≤ 1) ∧ Q (.inl (some (jI s0))) h) : jWp d mX11_isSign 59 [] [jI s0] h Q := by
  refine jw_ok (fun ok q => ?_)
  replace k := k ok 
  have c1 := k.1
  replace k := k.2
  exact wp_zreturn dX11_isSign_59 rfl c1.1 c1.2 k
theorem bX11_ended {d : Nat} {h : jH} {Q : jO → jH → Prop} {a0 : Nat} (k : jOK h → hK h a0 = 9 ∧ (j32 (hI h 825 a0) → jCall d mX11_here [jR a0, jI (hI h 825 a0)] h (fun o h5 => ∃ v5, o = .inl (some (jI v5)) ∧ ((v5 = (-1) → Q (.inl (some (jI 1))) h5) ∧ (¬ (v5 = (-1)) → hK h5 a0 = 9 ∧ (j32 (hI h5 826 a0) → (((hI h5 826 a0) = 0 → ((v5 ≠ 29 → Q (.inl (some (jI 0))) h5) ∧ (v5 = 29 → Q (.inl (some (jI 1))) h5))) ∧ (¬ ((hI h5 826 a0) = 0) → ((v5 ≠ 40 → Q (.inl (some (jI 0))) h5) ∧ (v5 = 40 → Q (.inl (some (jI 1))) h5)))))))))) : jCall (d + 1) mX11_ended [jR a0] h Q := by
  refine jCall_of plX11 (Nat.le_of_ble_eq_true rfl) ?_
  show jWp (d + 1) mX11_ended 0 [(0, jR a0)] [] h Q
  refine jw_ok (fun ok q => ?_)
  replace k := k ok 
  refine wp_aload_n 0 dX11_ended_0 rfl ?_
  refine wp_aload_n 0 dX11_ended_1 rfl ?_
  have c1 := k.1
  replace k := k.2
  refine wp_getI (ci := 8) (j := 25) rfl (by decide) gX11_88 dX11_ended_2 c1 rfl (fun q => ?_)
  have f2 := q
  replace k := k q
  refine wp_callV (ci := 8) (y' := mX11_here) (st := []) [jI (hI h 825 a0)] rfl rfl rfl fX11_here kX11_296 nX11_here dX11_ended_5 (Nat.le_of_ble_eq_true rfl) c1 ?_
  refine jCall.mono k (fun o h5 k => ?_)
  obtain ⟨v5, e, k⟩ := k
  subst e
  show jWp (d + 1) mX11_ended 8 [(0, jR a0)] [jI v5] h5 Q
  refine wp_istore_n [1, 0] (ls' := [(0, jR a0), (1, jI v5)]) dX11_ended_8 (by decide) rfl ?_
  refine wp_iload_n 1 dX11_ended_9 rfl ?_
  refine wp_iconst dX11_ended_10 ⟨by decide, by decide⟩ ?_
  refine wp_icmp_eq 36 dX11_ended_11 rfl (fun q => ?_) (fun q => ?_)
  · replace k := k.1 q
    refine wp_iconst dX11_ended_36 ⟨by decide, by decide⟩ ?_
    refine wp_goto 41 dX11_ended_37 rfl ?_
    exact wp_zreturn dX11_ended_41 rfl (by decide) (by decide) k
  · replace k := k.2 q
    refine wp_aload_n 0 dX11_ended_14 rfl ?_
    have c3 := k.1
    replace k := k.2
    refine wp_getI (ci := 8) (j := 26) rfl (by decide) gX11_91 dX11_ended_15 c3 rfl (fun q => ?_)
    have f4 := q
    replace k := k q
    refine wp_if_eq 30 dX11_ended_18 rfl (fun q => ?_) (fun q => ?_)
    · replace k := k.1 q
      refine wp_iload_n 1 dX11_ended_30 rfl ?_
      refine wp_bipush dX11_ended_31 ⟨by decide, by decide⟩ ?_
      refine wp_icmp_ne 40 dX11_ended_33 rfl (fun q => ?_) (fun q => ?_)
      · replace k := k.1 q
        refine wp_iconst dX11_ended_40 ⟨by decide, by decide⟩ ?_
        exact wp_zreturn dX11_ended_41 rfl (by decide) (by decide) k
      · replace k := k.2 q
        refine wp_iconst dX11_ended_36 ⟨by decide, by decide⟩ ?_
        refine wp_goto 41 dX11_ended_37 rfl ?_
        exact wp_zreturn dX11_ended_41 rfl (by decide) (by decide) k
    · replace k := k.2 q
      refine wp_iload_n 1 dX11_ended_21 rfl ?_
      refine wp_bipush dX11_ended_22 ⟨by decide, by decide⟩ ?_
      refine wp_icmp_ne 40 dX11_ended_24 rfl (fun q => ?_) (fun q => ?_)
      · replace k := k.1 q
        refine wp_iconst dX11_ended_40 ⟨by decide, by decide⟩ ?_
        exact wp_zreturn dX11_ended_41 rfl (by decide) (by decide) k
      · replace k := k.2 q
        refine wp_goto 36 dX11_ended_27 rfl ?_
        refine wp_iconst dX11_ended_36 ⟨by decide, by decide⟩ ?_
        refine wp_goto 41 dX11_ended_37 rfl ?_
        exact wp_zreturn dX11_ended_41 rfl (by decide) (by decide) k
theorem bX11_next {d : Nat} {h : jH} {Q : jO → jH → Prop} {a0 : Nat} (k : jOK h → hK h a0 = 9 ∧ (j32 (hI h 825 a0) → jCall d mX11_here [jR a0, jI (hI h 825 a0)] h (fun o h5 => ∃ v5, o = .inl (some (jI v5)) ∧ hK h5 a0 = 9 ∧ (j32 (hI h5 826 a0) → (((hI h5 826 a0) = 0 → Q (.inl (some (jI v5))) h5) ∧ (¬ ((hI h5 826 a0) = 0) → ((v5 = 92 → (j32 (hI h5 825 a0) → j32 ((hI h5 825 a0) + 1) ∧ jCall d mX11_here [jR a0, jI ((hI h5 825 a0) + 1)] h5 (fun o h31 => ∃ v31, o = .inl (some (jI v31)) ∧ ((v31 ≠ 40 → Q (.inl (some (jI (-1)))) h31) ∧ (v31 = 40 → Q (.inl (some (jI 40))) h31))))) ∧ (¬ (v5 = 92) → Q (.inl (some (jI v5))) h5)))))))) : jCall (d + 1) mX11_next [jR a0] h Q := by
  refine jCall_of plX11 (Nat.le_of_ble_eq_true rfl) ?_
  show jWp (d + 1) mX11_next 0 [(0, jR a0)] [] h Q
  refine jw_ok (fun ok q => ?_)
  replace k := k ok 
  refine wp_aload_n 0 dX11_next_0 rfl ?_
  refine wp_aload_n 0 dX11_next_1 rfl ?_
  have c1 := k.1
  replace k := k.2
  refine wp_getI (ci := 8) (j := 25) rfl (by decide) gX11_88 dX11_next_2 c1 rfl (fun q => ?_)
  have f2 := q
  replace k := k q
  refine wp_callV (ci := 8) (y' := mX11_here) (st := []) [jI (hI h 825 a0)] rfl rfl rfl fX11_here kX11_296 nX11_here dX11_next_5 (Nat.le_of_ble_eq_true rfl) c1 ?_
  refine jCall.mono k (fun o h5 k => ?_)
  obtain ⟨v5, e, k⟩ := k
  subst e
  show jWp (d + 1) mX11_next 8 [(0, jR a0)] [jI v5] h5 Q
  refine wp_istore_n [1, 0] (ls' := [(0, jR a0), (1, jI v5)]) dX11_next_8 (by decide) rfl ?_
  refine wp_aload_n 0 dX11_next_9 rfl ?_
  have c3 := k.1
  replace k := k.2
  refine wp_getI (ci := 8) (j := 26) rfl (by decide) gX11_91 dX11_next_10 c3 rfl (fun q => ?_)
  have f4 := q
  replace k := k q
  refine wp_if_eq 22 dX11_next_13 rfl (fun q => ?_) (fun q => ?_)
  · replace k := k.1 q
    refine wp_iload_n 1 dX11_next_22 rfl ?_
    exact wp_iret dX11_next_23 rfl k
  · replace k := k.2 q
    refine wp_iload_n 1 dX11_next_16 rfl ?_
    refine wp_bipush dX11_next_17 ⟨by decide, by decide⟩ ?_
    refine wp_icmp_eq 24 dX11_next_19 rfl (fun q => ?_) (fun q => ?_)
    · replace k := k.1 q
      refine wp_aload_n 0 dX11_next_24 rfl ?_
      refine wp_aload_n 0 dX11_next_25 rfl ?_
      refine wp_getI (ci := 8) (j := 25) rfl (by decide) gX11_88 dX11_next_26 c3 rfl (fun q => ?_)
      have f5 := q
      replace k := k q
      refine wp_iconst dX11_next_29 ⟨by decide, by decide⟩ ?_
      have c6 := k.1
      replace k := k.2
      refine wp_iadd dX11_next_30 c6 ?_
      refine wp_callV (ci := 8) (y' := mX11_here) (st := []) [jI ((hI h5 825 a0) + 1)] rfl rfl rfl fX11_here kX11_296 nX11_here dX11_next_31 (Nat.le_of_ble_eq_true rfl) c3 ?_
      refine jCall.mono k (fun o h31 k => ?_)
      obtain ⟨v31, e, k⟩ := k
      subst e
      show jWp (d + 1) mX11_next 34 [(0, jR a0), (1, jI v5)] [jI v31] h31 Q
      refine wp_bipush dX11_next_34 ⟨by decide, by decide⟩ ?_
      refine wp_icmp_ne 44 dX11_next_36 rfl (fun q => ?_) (fun q => ?_)
      · replace k := k.1 q
        refine wp_iconst dX11_next_44 ⟨by decide, by decide⟩ ?_
        exact wp_iret dX11_next_45 rfl k
      · replace k := k.2 q
        refine wp_bipush dX11_next_39 ⟨by decide, by decide⟩ ?_
        refine wp_goto 45 dX11_next_41 rfl ?_
        exact wp_iret dX11_next_45 rfl k
    · replace k := k.2 q
      refine wp_iload_n 1 dX11_next_22 rfl ?_
      exact wp_iret dX11_next_23 rfl k
theorem bX11_pass {d : Nat} {h : jH} {Q : jO → jH → Prop} {a0 : Nat} (k : jOK h → hK h a0 = 9 ∧ (j32 (hI h 825 a0) → (j32 (hI h 826 a0) → (((hI h 826 a0) = 0 → j32 ((hI h 825 a0) + 1) ∧ Q (.inl none) (sI h 825 a0 ((hI h 825 a0) + 1))) ∧ (¬ ((hI h 826 a0) = 0) → jCall d mX11_here [jR a0, jI (hI h 825 a0)] h (fun o h17 => ∃ v17, o = .inl (some (jI v17)) ∧ ((v17 ≠ 92 → j32 ((hI h 825 a0) + 1) ∧ hK h17 a0 = 9 ∧ Q (.inl none) (sI h17 825 a0 ((hI h 825 a0) + 1))) ∧ (v17 = 92 → j32 ((hI h 825 a0) + 2) ∧ hK h17 a0 = 9 ∧ Q (.inl none) (sI h17 825 a0 ((hI h 825 a0) + 2)))))))))) : jCall (d + 1) mX11_pass [jR a0] h Q := by
  refine jCall_of plX11 (Nat.le_of_ble_eq_true rfl) ?_
  show jWp (d + 1) mX11_pass 0 [(0, jR a0)] [] h Q
  refine jw_ok (fun ok q => ?_)
  replace k := k ok 
  refine wp_aload_n 0 dX11_pass_0 rfl ?_
  refine wp_dup dX11_pass_1 rfl ?_
  have c1 := k.1
  replace k := k.2
  refine wp_getI (ci := 8) (j := 25) rfl (by decide) gX11_88 dX11_pass_2 c1 rfl (fun q => ?_)
  have f2 := q
  replace k := k q
  refine wp_aload_n 0 dX11_pass_5 rfl ?_
  refine wp_getI (ci := 8) (j := 26) rfl (by decide) gX11_91 dX11_pass_6 c1 rfl (fun q => ?_)
  have f3 := q
  replace k := k q
  refine wp_if_eq 29 dX11_pass_9 rfl (fun q => ?_) (fun q => ?_)
  · replace k := k.1 q
    refine wp_iconst dX11_pass_29 ⟨by decide, by decide⟩ ?_
    have c4 := k.1
    replace k := k.2
    refine wp_iadd dX11_pass_30 c4 ?_
    refine wp_putI (ci := 8) (j := 25) rfl (by decide) gX11_88 dX11_pass_31 c1 (Or.inl rfl) rfl ?_
    exact wp_return dX11_pass_34 rfl k
  · replace k := k.2 q
    refine wp_aload_n 0 dX11_pass_12 rfl ?_
    refine wp_aload_n 0 dX11_pass_13 rfl ?_
    refine wp_getI (ci := 8) (j := 25) rfl (by decide) gX11_88 dX11_pass_14 c1 rfl (fun q => ?_)
    refine wp_callV (ci := 8) (y' := mX11_here) (st := [jI (hI h 825 a0), jR a0]) [jI (hI h 825 a0)] rfl rfl rfl fX11_here kX11_296 nX11_here dX11_pass_17 (Nat.le_of_ble_eq_true rfl) c1 ?_
    refine jCall.mono k (fun o h17 k => ?_)
    obtain ⟨v17, e, k⟩ := k
    subst e
    show jWp (d + 1) mX11_pass 20 [(0, jR a0)] [jI v17, jI (hI h 825 a0), jR a0] h17 Q
    refine wp_bipush dX11_pass_20 ⟨by decide, by decide⟩ ?_
    refine wp_icmp_ne 29 dX11_pass_22 rfl (fun q => ?_) (fun q => ?_)
    · replace k := k.1 q
      refine wp_iconst dX11_pass_29 ⟨by decide, by decide⟩ ?_
      have c5 := k.1
      replace k := k.2
      refine wp_iadd dX11_pass_30 c5 ?_
      have c6 := k.1
      replace k := k.2
      refine wp_putI (ci := 8) (j := 25) rfl (by decide) gX11_88 dX11_pass_31 c6 (Or.inl rfl) rfl ?_
      exact wp_return dX11_pass_34 rfl k
    · replace k := k.2 q
      refine wp_iconst dX11_pass_25 ⟨by decide, by decide⟩ ?_
      refine wp_goto 30 dX11_pass_26 rfl ?_
      have c7 := k.1
      replace k := k.2
      refine wp_iadd dX11_pass_30 c7 ?_
      have c8 := k.1
      replace k := k.2
      refine wp_putI (ci := 8) (j := 25) rfl (by decide) gX11_88 dX11_pass_31 c8 (Or.inl rfl) rfl ?_
      exact wp_return dX11_pass_34 rfl k
theorem bX11_daysOf {d : Nat} {h : jH} {Q : jO → jH → Prop} {a0 : Int} {a1 : Int} (k : jOK h → j32 a0 → j32 a1 → ((a1 ≠ 2 → ((a1 = 4 → Q (.inl (some (jI 30))) h) ∧ (¬ (a1 = 4) → ((a1 = 6 → Q (.inl (some (jI 30))) h) ∧ (¬ (a1 = 6) → ((a1 = 9 → Q (.inl (some (jI 30))) h) ∧ (¬ (a1 = 9) → ((a1 ≠ 11 → Q (.inl (some (jI 31))) h) ∧ (a1 = 11 → Q (.inl (some (jI 30))) h))))))))) ∧ (a1 = 2 → 0 ≤ a0 ∧ (((a0 % 4) ≠ 0 → Q (.inl (some (jI 28))) h) ∧ ((a0 % 4) = 0 → (((a0 % 100) ≠ 0 → Q (.inl (some (jI 29))) h) ∧ ((a0 % 100) = 0 → (((a0 % 400) ≠ 0 → Q (.inl (some (jI 28))) h) ∧ ((a0 % 400) = 0 → Q (.inl (some (jI 29))) h))))))))) : jCall d mX11_daysOf [jI a0, jI a1] h Q := by
  refine jCall_of plX11 (Nat.le_of_ble_eq_true rfl) ?_
  show jWp d mX11_daysOf 0 [(0, jI a0), (1, jI a1)] [] h Q
  refine jw_ok (fun ok q => ?_)
  replace k := k ok (q _ (.head _)) (q _ (.tail _ (.head _)))
  refine wp_iload_n 1 dX11_daysOf_0 rfl ?_
  refine wp_iconst dX11_daysOf_1 ⟨by decide, by decide⟩ ?_
  refine wp_icmp_ne 34 dX11_daysOf_2 rfl (fun q => ?_) (fun q => ?_)
  · replace k := k.1 q
    refine wp_iload_n 1 dX11_daysOf_34 rfl ?_
    refine wp_iconst dX11_daysOf_35 ⟨by decide, by decide⟩ ?_
    refine wp_icmp_eq 57 dX11_daysOf_36 rfl (fun q => ?_) (fun q => ?_)
    · replace k := k.1 q
      refine wp_bipush dX11_daysOf_57 ⟨by decide, by decide⟩ ?_
      refine wp_goto 64 dX11_daysOf_59 rfl ?_
      exact wp_iret dX11_daysOf_64 rfl k
    · replace k := k.2 q
      refine wp_iload_n 1 dX11_daysOf_39 rfl ?_
      refine wp_bipush dX11_daysOf_40 ⟨by decide, by decide⟩ ?_
      refine wp_icmp_eq 57 dX11_daysOf_42 rfl (fun q => ?_) (fun q => ?_)
      · replace k := k.1 q
        refine wp_bipush dX11_daysOf_57 ⟨by decide, by decide⟩ ?_
        refine wp_goto 64 dX11_daysOf_59 rfl ?_
        exact wp_iret dX11_daysOf_64 rfl k
      · replace k := k.2 q
        refine wp_iload_n 1 dX11_daysOf_45 rfl ?_
        refine wp_bipush dX11_daysOf_46 ⟨by decide, by decide⟩ ?_
        refine wp_icmp_eq 57 dX11_daysOf_48 rfl (fun q => ?_) (fun q => ?_)
        · replace k := k.1 q
          refine wp_bipush dX11_daysOf_57 ⟨by decide, by decide⟩ ?_
          refine wp_goto 64 dX11_daysOf_59 rfl ?_
          exact wp_iret dX11_daysOf_64 rfl k
        · replace k := k.2 q
          refine wp_iload_n 1 dX11_daysOf_51 rfl ?_
          refine wp_bipush dX11_daysOf_52 ⟨by decide, by decide⟩ ?_
          refine wp_icmp_ne 62 dX11_daysOf_54 rfl (fun q => ?_) (fun q => ?_)
          · replace k := k.1 q
            refine wp_bipush dX11_daysOf_62 ⟨by decide, by decide⟩ ?_
            exact wp_iret dX11_daysOf_64 rfl k
          · replace k := k.2 q
            refine wp_bipush dX11_daysOf_57 ⟨by decide, by decide⟩ ?_
            refine wp_goto 64 dX11_daysOf_59 rfl ?_
            exact wp_iret dX11_daysOf_64 rfl k
  · replace k := k.2 q
    refine wp_iload_n 0 dX11_daysOf_5 rfl ?_
    refine wp_iconst dX11_daysOf_6 ⟨by decide, by decide⟩ ?_
    have c1 := k.1
    replace k := k.2
    refine wp_irem dX11_daysOf_7 c1 (by decide) ?_
    refine wp_if_ne 31 dX11_daysOf_8 rfl (fun q => ?_) (fun q => ?_)
    · replace k := k.1 q
      refine wp_bipush dX11_daysOf_31 ⟨by decide, by decide⟩ ?_
      exact wp_iret dX11_daysOf_33 rfl k
    · replace k := k.2 q
      refine wp_iload_n 0 dX11_daysOf_11 rfl ?_
      refine wp_bipush dX11_daysOf_12 ⟨by decide, by decide⟩ ?_
      refine wp_irem dX11_daysOf_14 c1 (by decide) ?_
      refine wp_if_ne 26 dX11_daysOf_15 rfl (fun q => ?_) (fun q => ?_)
      · replace k := k.1 q
        refine wp_bipush dX11_daysOf_26 ⟨by decide, by decide⟩ ?_
        refine wp_goto 33 dX11_daysOf_28 rfl ?_
        exact wp_iret dX11_daysOf_33 rfl k
      · replace k := k.2 q
        refine wp_iload_n 0 dX11_daysOf_18 rfl ?_
        refine wp_sipush dX11_daysOf_19 ⟨by decide, by decide⟩ ?_
        refine wp_irem dX11_daysOf_22 c1 (by decide) ?_
        refine wp_if_ne 31 dX11_daysOf_23 rfl (fun q => ?_) (fun q => ?_)
        · replace k := k.1 q
          refine wp_bipush dX11_daysOf_31 ⟨by decide, by decide⟩ ?_
          exact wp_iret dX11_daysOf_33 rfl k
        · replace k := k.2 q
          refine wp_bipush dX11_daysOf_26 ⟨by decide, by decide⟩ ?_
          refine wp_goto 33 dX11_daysOf_28 rfl ?_
          exact wp_iret dX11_daysOf_33 rfl k
theorem bX11_two {d : Nat} {h : jH} {Q : jO → jH → Prop} {a0 : Nat} {a1 : Int} (k : jOK h → j32 a1 → hK h a0 = 9 ∧ hK h (hR h 817 a0) = 11 ∧ 0 ≤ a1 ∧ a1 < hN h (hR h 817 a0) ∧ ((-128 ≤ hA h (hR h 817 a0) a1 ∧ hA h (hR h 817 a0) a1 ≤ 127) → j32 ((hA h (hR h 817 a0) a1) - 48) ∧ j32 (10 * ((hA h (hR h 817 a0) a1) - 48)) ∧ j32 (a1 + 1) ∧ 0 ≤ (a1 + 1) ∧ (a1 + 1) < hN h (hR h 817 a0) ∧ ((-128 ≤ hA h (hR h 817 a0) (a1 + 1) ∧ hA h (hR h 817 a0) (a1 + 1) ≤ 127) → j32 ((10 * ((hA h (hR h 817 a0) a1) - 48)) + (hA h (hR h 817 a0) (a1 + 1))) ∧ j32 (((10 * ((hA h (hR h 817 a0) a1) - 48)) + (hA h (hR h 817 a0) (a1 + 1))) - 48) ∧ Q (.inl (some (jI (((10 * ((hA h (hR h 817 a0) a1) - 48)) + (hA h (hR h 817 a0) (a1 + 1))) - 48)))) h))) : jCall d mX11_two [jR a0, jI a1] h Q := by
  refine jCall_of plX11 (Nat.le_of_ble_eq_true rfl) ?_
  show jWp d mX11_two 0 [(0, jR a0), (1, jI a1)] [] h Q
  refine jw_ok (fun ok q => ?_)
  replace k := k ok (q _ (.tail _ (.head _)))
  refine wp_bipush dX11_two_0 ⟨by decide, by decide⟩ ?_
  refine wp_aload_n 0 dX11_two_2 rfl ?_
  have c1 := k.1
  replace k := k.2
  refine wp_getR (ci := 8) (j := 17) rfl (by decide) gX11_63 dX11_two_3 c1 rfl ?_
  refine wp_iload_n 1 dX11_two_6 rfl ?_
  have c2 := k.1
  replace k := k.2
  have c3 := k.1
  replace k := k.2
  have c4 := k.1
  replace k := k.2
  refine wp_baload dX11_two_7 c2 c3 c4 (fun q => ?_)
  have f5 := q
  replace k := k q
  refine wp_bipush dX11_two_8 ⟨by decide, by decide⟩ ?_
  have c6 := k.1
  replace k := k.2
  refine wp_isub dX11_two_10 c6 ?_
  have c7 := k.1
  replace k := k.2
  refine wp_imul dX11_two_11 c7 ?_
  refine wp_aload_n 0 dX11_two_12 rfl ?_
  refine wp_getR (ci := 8) (j := 17) rfl (by decide) gX11_63 dX11_two_13 c1 rfl ?_
  refine wp_iload_n 1 dX11_two_16 rfl ?_
  refine wp_iconst dX11_two_17 ⟨by decide, by decide⟩ ?_
  have c8 := k.1
  replace k := k.2
  refine wp_iadd dX11_two_18 c8 ?_
  have c9 := k.1
  replace k := k.2
  have c10 := k.1
  replace k := k.2
  refine wp_baload dX11_two_19 c2 c9 c10 (fun q => ?_)
  have f11 := q
  replace k := k q
  have c12 := k.1
  replace k := k.2
  refine wp_iadd dX11_two_20 c12 ?_
  refine wp_bipush dX11_two_21 ⟨by decide, by decide⟩ ?_
  have c13 := k.1
  replace k := k.2
  refine wp_isub dX11_two_23 c13 ?_
  exact wp_iret dX11_two_24 rfl k
theorem bX11_yearOf {d : Nat} {h : jH} {Q : jO → jH → Prop} {a0 : Nat} {a1 : Int} (k : jOK h → j32 a1 → hK h a0 = 9 ∧ (j32 (hI h 822 a0) → j32 ((hI h 822 a0) - 49) ∧ jWp d mX11_yearOf 8 [(1, jI a1), (2, jI ((hI h 822 a0) - 49))] [] h Q)) : jCall d mX11_yearOf [jR a0, jI a1] h Q := by
  refine jCall_of plX11 (Nat.le_of_ble_eq_true rfl) ?_
  show jWp d mX11_yearOf 0 [(0, jR a0), (1, jI a1)] [] h Q
  refine jw_ok (fun ok q => ?_)
  replace k := k ok (q _ (.tail _ (.head _)))
  refine wp_aload_n 0 dX11_yearOf_0 rfl ?_
  have c1 := k.1
  replace k := k.2
  refine wp_getI (ci := 8) (j := 22) rfl (by decide) gX11_79 dX11_yearOf_1 c1 rfl (fun q => ?_)
  have f2 := q
  replace k := k q
  refine wp_bipush dX11_yearOf_4 ⟨by decide, by decide⟩ ?_
  have c3 := k.1
  replace k := k.2
  refine wp_isub dX11_yearOf_6 c3 ?_
  refine wp_istore_n [2, 0] (ls' := [(1, jI a1), (2, jI ((hI h 822 a0) - 49))]) dX11_yearOf_7 (by decide) rfl ?_
  exact k
theorem bX11_yearOf_8 {d : Nat} {h : jH} {Q : jO → jH → Prop} {a1 : Int} {a2 : Int} (k : jOK h → j32 a1 → j32 a2 → 0 ≤ a2 ∧ (((a2 % 100) = a1 → Q (.inl (some (jI a2))) h) ∧ (¬ ((a2 % 100) = a1) → j32 (a2 + 1) ∧ jWp d mX11_yearOf 8 [(1, jI a1), (2, jI (a2 + 1))] [] h Q))) : jWp d mX11_yearOf 8 [(1, jI a1), (2, jI a2)] [] h Q := by
  refine jw_ok (fun ok q => ?_)
  replace k := k ok (q _ (.head _)) (q _ (.tail _ (.head _)))
  refine wp_iload_n 1 dX11_yearOf_8 rfl ?_
  refine wp_bipush dX11_yearOf_9 ⟨by decide, by decide⟩ ?_
  have c1 := k.1
  replace k := k.2
  refine wp_irem dX11_yearOf_11 c1 (by decide) ?_
  refine wp_iload_n 0 dX11_yearOf_12 rfl ?_
  refine wp_icmp_eq 22 dX11_yearOf_13 rfl (fun q => ?_) (fun q => ?_)
  · replace k := k.1 q
    refine wp_iload_n 1 dX11_yearOf_22 rfl ?_
    exact wp_iret dX11_yearOf_23 rfl k
  · replace k := k.2 q
    have c2 := k.1
    replace k := k.2
    refine wp_iinc 1 [1, 0] (ls' := [(1, jI a1), (2, jI (a2 + 1))]) dX11_yearOf_16 rfl c2 ⟨by decide, by decide⟩ (by decide) rfl ?_
    refine wp_goto 8 dX11_yearOf_19 rfl ?_
    exact k
theorem bX11_checkOf {d : Nat} {h : jH} {Q : jO → jH → Prop} {a0 : Nat} {a1 : Int} {a2 : Int} (k : jOK h → j32 a1 → j32 a2 → jWp d mX11_checkOf 5 [(0, jR a0), (1, jI a1), (2, jI a2), (3, jI 0), (4, jI 0)] [] h Q) : jCall d mX11_checkOf [jR a0, jI a1, jI a2] h Q := by
  refine jCall_of plX11 (Nat.le_of_ble_eq_true rfl) ?_
  show jWp d mX11_checkOf 0 [(0, jR a0), (1, jI a1), (2, jI a2)] [] h Q
  refine jw_ok (fun ok q => ?_)
  replace k := k ok (q _ (.tail _ (.head _))) (q _ (.tail _ (.tail _ (.head _))))
  refine wp_iconst dX11_checkOf_0 ⟨by decide, by decide⟩ ?_
  refine wp_istore_n [1, 2, 3, 0] (ls' := [(0, jR a0), (1, jI a1), (2, jI a2), (3, jI 0)]) dX11_checkOf_1 (by decide) rfl ?_
  refine wp_iconst dX11_checkOf_2 ⟨by decide, by decide⟩ ?_
  refine wp_istore [1, 2, 3, 4, 0] (ls' := [(0, jR a0), (1, jI a1), (2, jI a2), (3, jI 0), (4, jI 0)]) dX11_checkOf_3 (by decide) rfl ?_
  exact k
theorem bX11_checkOf_5 {d : Nat} {h : jH} {Q : jO → jH → Prop} {a0 : Nat} {a1 : Int} {a2 : Int} {a3 : Int} {a4 : Int} (k : jOK h → j32 a1 → j32 a2 → j32 a3 → j32 a4 → ((a2 ≤ a4 → 0 ≤ a3 ∧ j32 (10 - (a3 % 10)) ∧ 0 ≤ (10 - (a3 % 10)) ∧ Q (.inl (some (jI ((10 - (a3 % 10)) % 10)))) h) ∧ (¬ (a2 ≤ a4) → j32 (a1 + a2) ∧ j32 ((a1 + a2) - 1) ∧ j32 (((a1 + a2) - 1) - a4) ∧ hK h a0 = 11 ∧ 0 ≤ (((a1 + a2) - 1) - a4) ∧ (((a1 + a2) - 1) - a4) < hN h a0 ∧ ((-128 ≤ hA h a0 (((a1 + a2) - 1) - a4) ∧ hA h a0 (((a1 + a2) - 1) - a4) ≤ 127) → j32 ((hA h a0 (((a1 + a2) - 1) - a4)) - 48) ∧ 0 ≤ a4 ∧ (((a4 % 2) ≠ 0 → j32 (((hA h a0 (((a1 + a2) - 1) - a4)) - 48) * 1) ∧ j32 (a3 + (((hA h a0 (((a1 + a2) - 1) - a4)) - 48) * 1)) ∧ j32 (a4 + 1) ∧ jWp d mX11_checkOf 5 [(0, jR a0), (1, jI a1), (2, jI a2), (3, jI (a3 + (((hA h a0 (((a1 + a2) - 1) - a4)) - 48) * 1))), (4, jI (a4 + 1))] [] h Q) ∧ ((a4 % 2) = 0 → j32 (((hA h a0 (((a1 + a2) - 1) - a4)) - 48) * 3) ∧ j32 (a3 + (((hA h a0 (((a1 + a2) - 1) - a4)) - 48) * 3)) ∧ j32 (a4 + 1) ∧ jWp d mX11_checkOf 5 [(0, jR a0), (1, jI a1), (2, jI a2), (3, jI (a3 + (((hA h a0 (((a1 + a2) - 1) - a4)) - 48) * 3))), (4, jI (a4 + 1))] [] h Q)))))) : jWp d mX11_checkOf 5 [(0, jR a0), (1, jI a1), (2, jI a2), (3, jI a3), (4, jI a4)] [] h Q := by
  refine jw_ok (fun ok q => ?_)
  replace k := k ok (q _ (.tail _ (.head _))) (q _ (.tail _ (.tail _ (.head _)))) (q _ (.tail _ (.tail _ (.tail _ (.head _))))) (q _ (.tail _ (.tail _ (.tail _ (.tail _ (.head _))))))
  refine wp_iload 4 dX11_checkOf_5 rfl ?_
  refine wp_iload_n 2 dX11_checkOf_7 rfl ?_
  refine wp_icmp_ge 46 dX11_checkOf_8 rfl (fun q => ?_) (fun q => ?_)
  · replace k := k.1 q
    refine wp_bipush dX11_checkOf_46 ⟨by decide, by decide⟩ ?_
    refine wp_iload_n 3 dX11_checkOf_48 rfl ?_
    refine wp_bipush dX11_checkOf_49 ⟨by decide, by decide⟩ ?_
    have c1 := k.1
    replace k := k.2
    refine wp_irem dX11_checkOf_51 c1 (by decide) ?_
    have c2 := k.1
    replace k := k.2
    refine wp_isub dX11_checkOf_52 c2 ?_
    refine wp_bipush dX11_checkOf_53 ⟨by decide, by decide⟩ ?_
    have c3 := k.1
    replace k := k.2
    refine wp_irem dX11_checkOf_55 c3 (by decide) ?_
    exact wp_iret dX11_checkOf_56 rfl k
  · replace k := k.2 q
    refine wp_iload_n 3 dX11_checkOf_11 rfl ?_
    refine wp_aload_n 0 dX11_checkOf_12 rfl ?_
    refine wp_iload_n 1 dX11_checkOf_13 rfl ?_
    refine wp_iload_n 2 dX11_checkOf_14 rfl ?_
    have c4 := k.1
    replace k := k.2
    refine wp_iadd dX11_checkOf_15 c4 ?_
    refine wp_iconst dX11_checkOf_16 ⟨by decide, by decide⟩ ?_
    have c5 := k.1
    replace k := k.2
    refine wp_isub dX11_checkOf_17 c5 ?_
    refine wp_iload 4 dX11_checkOf_18 rfl ?_
    have c6 := k.1
    replace k := k.2
    refine wp_isub dX11_checkOf_20 c6 ?_
    have c7 := k.1
    replace k := k.2
    have c8 := k.1
    replace k := k.2
    have c9 := k.1
    replace k := k.2
    refine wp_baload dX11_checkOf_21 c7 c8 c9 (fun q => ?_)
    have f10 := q
    replace k := k q
    refine wp_bipush dX11_checkOf_22 ⟨by decide, by decide⟩ ?_
    have c11 := k.1
    replace k := k.2
    refine wp_isub dX11_checkOf_24 c11 ?_
    refine wp_iload 4 dX11_checkOf_25 rfl ?_
    refine wp_iconst dX11_checkOf_27 ⟨by decide, by decide⟩ ?_
    have c12 := k.1
    replace k := k.2
    refine wp_irem dX11_checkOf_28 c12 (by decide) ?_
    refine wp_if_ne 36 dX11_checkOf_29 rfl (fun q => ?_) (fun q => ?_)
    · replace k := k.1 q
      refine wp_iconst dX11_checkOf_36 ⟨by decide, by decide⟩ ?_
      have c13 := k.1
      replace k := k.2
      refine wp_imul dX11_checkOf_37 c13 ?_
      have c14 := k.1
      replace k := k.2
      refine wp_iadd dX11_checkOf_38 c14 ?_
      refine wp_istore_n [1, 2, 3, 0, 4] (ls' := [(0, jR a0), (1, jI a1), (2, jI a2), (3, jI (a3 + (((hA h a0 (((a1 + a2) - 1) - a4)) - 48) * 1))), (4, jI a4)]) dX11_checkOf_39 (by decide) rfl ?_
      have c15 := k.1
      replace k := k.2
      refine wp_iinc 4 [1, 2, 3, 4, 0] (ls' := [(0, jR a0), (1, jI a1), (2, jI a2), (3, jI (a3 + (((hA h a0 (((a1 + a2) - 1) - a4)) - 48) * 1))), (4, jI (a4 + 1))]) dX11_checkOf_40 rfl c15 ⟨by decide, by decide⟩ (by decide) rfl ?_
      refine wp_goto 5 dX11_checkOf_43 rfl ?_
      exact k
    · replace k := k.2 q
      refine wp_iconst dX11_checkOf_32 ⟨by decide, by decide⟩ ?_
      refine wp_goto 37 dX11_checkOf_33 rfl ?_
      have c16 := k.1
      replace k := k.2
      refine wp_imul dX11_checkOf_37 c16 ?_
      have c17 := k.1
      replace k := k.2
      refine wp_iadd dX11_checkOf_38 c17 ?_
      refine wp_istore_n [1, 2, 3, 0, 4] (ls' := [(0, jR a0), (1, jI a1), (2, jI a2), (3, jI (a3 + (((hA h a0 (((a1 + a2) - 1) - a4)) - 48) * 3))), (4, jI a4)]) dX11_checkOf_39 (by decide) rfl ?_
      have c18 := k.1
      replace k := k.2
      refine wp_iinc 4 [1, 2, 3, 4, 0] (ls' := [(0, jR a0), (1, jI a1), (2, jI a2), (3, jI (a3 + (((hA h a0 (((a1 + a2) - 1) - a4)) - 48) * 3))), (4, jI (a4 + 1))]) dX11_checkOf_40 rfl c18 ⟨by decide, by decide⟩ (by decide) rfl ?_
      refine wp_goto 5 dX11_checkOf_43 rfl ?_
      exact k
theorem bX11_holds {d : Nat} {h : jH} {Q : jO → jH → Prop} {a0 : Nat} {a1 : Int} {a2 : Int} {a3 : Int} {a4 : Int} (k : jOK h → j32 a1 → j32 a2 → j32 a3 → j32 a4 → j32 (90 * a1) ∧ j32 ((90 * a1) + a3) ∧ ((a2 ≠ 3 → ((a2 ≠ 5 → ((a2 = 4 → hK h a0 = 9 ∧ jCall d mX11_two [jR a0, jI ((90 * a1) + a3)] h (fun o h130 => ∃ v130, o = .inl (some (jI v130)) ∧ hK h130 a0 = 9 ∧ jCall d mX11_yearOf [jR a0, jI v130] h130 (fun o h133 => ∃ v133, o = .inl (some (jI v133)) ∧ j32 (((90 * a1) + a3) + 2) ∧ hK h133 a0 = 9 ∧ jCall d mX11_two [jR a0, jI (((90 * a1) + a3) + 2)] h133 (fun o h143 => ∃ v143, o = .inl (some (jI v143)) ∧ ((v143 < 1 → jWp (d + 1) mX11_holds 179 [(0, jR a0), (3, jI a3)] [] h143 Q) ∧ (¬ (v143 < 1) → ((12 < v143 → jWp (d + 1) mX11_holds 179 [(0, jR a0), (3, jI a3)] [] h143 Q) ∧ (¬ (12 < v143) → j32 (((90 * a1) + a3) + 4) ∧ hK h143 a0 = 9 ∧ jCall d mX11_two [jR a0, jI (((90 * a1) + a3) + 4)] h143 (fun o h166 => ∃ v166, o = .inl (some (jI v166)) ∧ jCall d mX11_daysOf [jI v133, jI v143] h166 (fun o h173 => ∃ v173, o = .inl (some (jI v173)) ∧ ((v166 ≤ v173 → hK h173 a0 = 9 ∧ j32 (2 * a1) ∧ ((a3 ≠ 0 → jWp (d + 1) mX11_holds 208 [(6, jI v133)] [jI 1, jI (2 * a1), jR (hR h173 816 a0)] h173 Q) ∧ (a3 = 0 → jWp (d + 1) mX11_holds 208 [(6, jI v133)] [jI 0, jI (2 * a1), jR (hR h173 816 a0)] h173 Q))) ∧ (¬ (v166 ≤ v173) → jWp (d + 1) mX11_holds 179 [(0, jR a0), (3, jI a3)] [] h173 Q)))))))))))) ∧ (¬ (a2 = 4) → Q (.inl (some (jI 1))) h))) ∧ (a2 = 5 → hK h a0 = 9 ∧ jCall d mX11_two [jR a0, jI ((90 * a1) + a3)] h (fun o h77 => ∃ v77, o = .inl (some (jI v77)) ∧ ((24 ≤ v77 → jWp (d + 1) mX11_holds 98 [(0, jR a0), (3, jI a3)] [] h77 Q) ∧ (¬ (24 ≤ v77) → j32 (((90 * a1) + a3) + 2) ∧ hK h77 a0 = 9 ∧ jCall d mX11_two [jR a0, jI (((90 * a1) + a3) + 2)] h77 (fun o h90 => ∃ v90, o = .inl (some (jI v90)) ∧ ((v90 < 60 → jWp (d + 1) mX11_holds 113 [] [] h90 Q) ∧ (¬ (v90 < 60) → jWp (d + 1) mX11_holds 98 [(0, jR a0), (3, jI a3)] [] h90 Q))))))))) ∧ (a2 = 3 → hK h a0 = 9 ∧ j32 (a4 - 1) ∧ jCall d mX11_checkOf [jR (hR h 817 a0), jI ((90 * a1) + a3), jI (a4 - 1)] h (fun o h23 => ∃ v23, o = .inl (some (jI v23)) ∧ hK h23 a0 = 9 ∧ j32 (((90 * a1) + a3) + a4) ∧ j32 ((((90 * a1) + a3) + a4) - 1) ∧ hK h23 (hR h23 817 a0) = 11 ∧ 0 ≤ ((((90 * a1) + a3) + a4) - 1) ∧ ((((90 * a1) + a3) + a4) - 1) < hN h23 (hR h23 817 a0) ∧ ((-128 ≤ hA h23 (hR h23 817 a0) ((((90 * a1) + a3) + a4) - 1) ∧ hA h23 (hR h23 817 a0) ((((90 * a1) + a3) + a4) - 1) ≤ 127) → j32 ((hA h23 (hR h23 817 a0) ((((90 * a1) + a3) + a4) - 1)) - 48) ∧ ((v23 = ((hA h23 (hR h23 817 a0) ((((90 * a1) + a3) + a4) - 1)) - 48) → jWp (d + 1) mX11_holds 63 [] [] h23 Q) ∧ (¬ (v23 = ((hA h23 (hR h23 817 a0) ((((90 * a1) + a3) + a4) - 1)) - 48)) → j32 (a3 + a4) ∧ j32 ((a3 + a4) - 1) ∧ hK h23 (hR h23 827 a0) = 10 ∧ 0 ≤ ((a3 + a4) - 1) ∧ ((a3 + a4) - 1) < hN h23 (hR h23 827 a0) ∧ (j32 (hA h23 (hR h23 827 a0) ((a3 + a4) - 1)) → jCall d mX11_fault [jR a0, jI 5, jI (hA h23 (hR h23 827 a0) ((a3 + a4) - 1))] h23 (fun o h57 => ∃ v57, o = .inl (some (jI v57)) ∧ ((v57 = 0 → jWp (d + 1) mX11_holds 68 [] [jI 0] h57 Q) ∧ (¬ (v57 = 0) → jWp (d + 1) mX11_holds 63 [] [] h57 Q))))))))))) : jCall (d + 1) mX11_holds [jR a0, jI a1, jI a2, jI a3, jI a4] h Q := by
  refine jCall_of plX11 (Nat.le_of_ble_eq_true rfl) ?_
  show jWp (d + 1) mX11_holds 0 [(0, jR a0), (1, jI a1), (2, jI a2), (3, jI a3), (4, jI a4)] [] h Q
  refine jw_ok (fun ok q => ?_)
  replace k := k ok (q _ (.tail _ (.head _))) (q _ (.tail _ (.tail _ (.head _)))) (q _ (.tail _ (.tail _ (.tail _ (.head _))))) (q _ (.tail _ (.tail _ (.tail _ (.tail _ (.head _))))))
  refine wp_bipush dX11_holds_0 ⟨by decide, by decide⟩ ?_
  refine wp_iload_n 1 dX11_holds_2 rfl ?_
  have c1 := k.1
  replace k := k.2
  refine wp_imul dX11_holds_3 c1 ?_
  refine wp_iload_n 3 dX11_holds_4 rfl ?_
  have c2 := k.1
  replace k := k.2
  refine wp_iadd dX11_holds_5 c2 ?_
  refine wp_istore [1, 2, 3, 4, 5, 0] (ls' := [(0, jR a0), (1, jI a1), (2, jI a2), (3, jI a3), (4, jI a4), (5, jI ((90 * a1) + a3))]) dX11_holds_6 (by decide) rfl ?_
  refine wp_iload_n 2 dX11_holds_8 rfl ?_
  refine wp_iconst dX11_holds_9 ⟨by decide, by decide⟩ ?_
  refine wp_icmp_ne 69 dX11_holds_10 rfl (fun q => ?_) (fun q => ?_)
  · replace k := k.1 q
    refine wp_iload_n 2 dX11_holds_69 rfl ?_
    refine wp_iconst dX11_holds_70 ⟨by decide, by decide⟩ ?_
    refine wp_icmp_ne 119 dX11_holds_71 rfl (fun q => ?_) (fun q => ?_)
    · replace k := k.1 q
      refine wp_iload_n 2 dX11_holds_119 rfl ?_
      refine wp_iconst dX11_holds_120 ⟨by decide, by decide⟩ ?_
      refine wp_icmp_eq 126 dX11_holds_121 rfl (fun q => ?_) (fun q => ?_)
      · replace k := k.1 q
        refine wp_aload_n 0 dX11_holds_126 rfl ?_
        refine wp_aload_n 0 dX11_holds_127 rfl ?_
        refine wp_iload 5 dX11_holds_128 rfl ?_
        have c3 := k.1
        replace k := k.2
        refine wp_callV (ci := 8) (y' := mX11_two) (st := [jR a0]) [jI ((90 * a1) + a3)] rfl rfl rfl fX11_two kX11_308 nX11_two dX11_holds_130 (Nat.le_of_ble_eq_true rfl) c3 ?_
        refine jCall.mono k (fun o h130 k => ?_)
        obtain ⟨v130, e, k⟩ := k
        subst e
        show jWp (d + 1) mX11_holds 133 [(0, jR a0), (1, jI a1), (2, jI a2), (3, jI a3), (4, jI a4), (5, jI ((90 * a1) + a3))] [jI v130, jR a0] h130 Q
        have c4 := k.1
        replace k := k.2
        refine wp_callV (ci := 8) (y' := mX11_yearOf) (st := []) [jI v130] rfl rfl rfl fX11_yearOf kX11_311 nX11_yearOf dX11_holds_133 (Nat.le_of_ble_eq_true rfl) c4 ?_
        refine jCall.mono k (fun o h133 k => ?_)
        obtain ⟨v133, e, k⟩ := k
        subst e
        show jWp (d + 1) mX11_holds 136 [(0, jR a0), (1, jI a1), (2, jI a2), (3, jI a3), (4, jI a4), (5, jI ((90 * a1) + a3))] [jI v133] h133 Q
        refine wp_istore [1, 2, 4, 6, 0] (ls' := [(0, jR a0), (1, jI a1), (3, jI a3), (5, jI ((90 * a1) + a3)), (6, jI v133)]) dX11_holds_136 (by decide) rfl ?_
        refine wp_aload_n 0 dX11_holds_138 rfl ?_
        refine wp_iload 3 dX11_holds_139 rfl ?_
        refine wp_iconst dX11_holds_141 ⟨by decide, by decide⟩ ?_
        have c5 := k.1
        replace k := k.2
        refine wp_iadd dX11_holds_142 c5 ?_
        have c6 := k.1
        replace k := k.2
        refine wp_callV (ci := 8) (y' := mX11_two) (st := []) [jI (((90 * a1) + a3) + 2)] rfl rfl rfl fX11_two kX11_308 nX11_two dX11_holds_143 (Nat.le_of_ble_eq_true rfl) c6 ?_
        refine jCall.mono k (fun o h143 k => ?_)
        obtain ⟨v143, e, k⟩ := k
        subst e
        show jWp (d + 1) mX11_holds 146 [(0, jR a0), (1, jI a1), (3, jI a3), (5, jI ((90 * a1) + a3)), (6, jI v133)] [jI v143] h143 Q
        refine wp_istore [1, 2, 3, 4, 5, 0] (ls' := [(0, jR a0), (1, jI a1), (3, jI a3), (5, jI ((90 * a1) + a3)), (6, jI v133), (7, jI v143)]) dX11_holds_146 (by decide) rfl ?_
        refine wp_iload 5 dX11_holds_148 rfl ?_
        refine wp_iconst dX11_holds_150 ⟨by decide, by decide⟩ ?_
        refine wp_icmp_lt 179 dX11_holds_151 rfl (fun q => ?_) (fun q => ?_)
        · replace k := k.1 q
          refine wp_sub [0, 2] (ls' := [(0, jR a0), (3, jI a3)]) rfl ?_
          exact k
        · replace k := k.2 q
          refine wp_iload 5 dX11_holds_154 rfl ?_
          refine wp_bipush dX11_holds_156 ⟨by decide, by decide⟩ ?_
          refine wp_icmp_gt 179 dX11_holds_158 rfl (fun q => ?_) (fun q => ?_)
          · replace k := k.1 q
            refine wp_sub [0, 2] (ls' := [(0, jR a0), (3, jI a3)]) rfl ?_
            exact k
          · replace k := k.2 q
            refine wp_aload_n 0 dX11_holds_161 rfl ?_
            refine wp_iload 3 dX11_holds_162 rfl ?_
            refine wp_iconst dX11_holds_164 ⟨by decide, by decide⟩ ?_
            have c7 := k.1
            replace k := k.2
            refine wp_iadd dX11_holds_165 c7 ?_
            have c8 := k.1
            replace k := k.2
            refine wp_callV (ci := 8) (y' := mX11_two) (st := []) [jI (((90 * a1) + a3) + 4)] rfl rfl rfl fX11_two kX11_308 nX11_two dX11_holds_166 (Nat.le_of_ble_eq_true rfl) c8 ?_
            refine jCall.mono k (fun o h166 k => ?_)
            obtain ⟨v166, e, k⟩ := k
            subst e
            show jWp (d + 1) mX11_holds 169 [(0, jR a0), (1, jI a1), (3, jI a3), (5, jI ((90 * a1) + a3)), (6, jI v133), (7, jI v143)] [jI v166] h166 Q
            refine wp_iload 4 dX11_holds_169 rfl ?_
            refine wp_iload 5 dX11_holds_171 rfl ?_
            refine wp_callS (y' := mX11_daysOf) (st := [jI v166]) [jI v133, jI v143] rfl fX11_daysOf kX11_314 nX11_daysOf dX11_holds_173 (Nat.le_of_ble_eq_true rfl) ?_
            refine jCall.mono k (fun o h173 k => ?_)
            obtain ⟨v173, e, k⟩ := k
            subst e
            show jWp (d + 1) mX11_holds 176 [(0, jR a0), (1, jI a1), (3, jI a3), (5, jI ((90 * a1) + a3)), (6, jI v133), (7, jI v143)] [jI v173, jI v166] h173 Q
            refine wp_icmp_le 192 dX11_holds_176 rfl (fun q => ?_) (fun q => ?_)
            · replace k := k.1 q
              refine wp_aload_n 0 dX11_holds_192 rfl ?_
              have c9 := k.1
              replace k := k.2
              refine wp_getR (ci := 8) (j := 16) rfl (by decide) gX11_60 dX11_holds_193 c9 rfl ?_
              refine wp_iconst dX11_holds_196 ⟨by decide, by decide⟩ ?_
              refine wp_iload_n 1 dX11_holds_197 rfl ?_
              have c10 := k.1
              replace k := k.2
              refine wp_imul dX11_holds_198 c10 ?_
              refine wp_iload_n 2 dX11_holds_199 rfl ?_
              refine wp_if_ne 207 dX11_holds_200 rfl (fun q => ?_) (fun q => ?_)
              · replace k := k.1 q
                refine wp_iconst dX11_holds_207 ⟨by decide, by decide⟩ ?_
                refine wp_sub [4] (ls' := [(6, jI v133)]) rfl ?_
                exact k
              · replace k := k.2 q
                refine wp_iconst dX11_holds_203 ⟨by decide, by decide⟩ ?_
                refine wp_goto 208 dX11_holds_204 rfl ?_
                refine wp_sub [4] (ls' := [(6, jI v133)]) rfl ?_
                exact k
            · replace k := k.2 q
              refine wp_sub [0, 2] (ls' := [(0, jR a0), (3, jI a3)]) rfl ?_
              exact k
      · replace k := k.2 q
        refine wp_iconst dX11_holds_124 ⟨by decide, by decide⟩ ?_
        exact wp_zreturn dX11_holds_125 rfl (by decide) (by decide) k
    · replace k := k.2 q
      refine wp_aload_n 0 dX11_holds_74 rfl ?_
      refine wp_iload 5 dX11_holds_75 rfl ?_
      have c11 := k.1
      replace k := k.2
      refine wp_callV (ci := 8) (y' := mX11_two) (st := []) [jI ((90 * a1) + a3)] rfl rfl rfl fX11_two kX11_308 nX11_two dX11_holds_77 (Nat.le_of_ble_eq_true rfl) c11 ?_
      refine jCall.mono k (fun o h77 k => ?_)
      obtain ⟨v77, e, k⟩ := k
      subst e
      show jWp (d + 1) mX11_holds 80 [(0, jR a0), (1, jI a1), (2, jI a2), (3, jI a3), (4, jI a4), (5, jI ((90 * a1) + a3))] [jI v77] h77 Q
      refine wp_bipush dX11_holds_80 ⟨by decide, by decide⟩ ?_
      refine wp_icmp_ge 98 dX11_holds_82 rfl (fun q => ?_) (fun q => ?_)
      · replace k := k.1 q
        refine wp_sub [0, 3] (ls' := [(0, jR a0), (3, jI a3)]) rfl ?_
        exact k
      · replace k := k.2 q
        refine wp_aload_n 0 dX11_holds_85 rfl ?_
        refine wp_iload 5 dX11_holds_86 rfl ?_
        refine wp_iconst dX11_holds_88 ⟨by decide, by decide⟩ ?_
        have c12 := k.1
        replace k := k.2
        refine wp_iadd dX11_holds_89 c12 ?_
        have c13 := k.1
        replace k := k.2
        refine wp_callV (ci := 8) (y' := mX11_two) (st := []) [jI (((90 * a1) + a3) + 2)] rfl rfl rfl fX11_two kX11_308 nX11_two dX11_holds_90 (Nat.le_of_ble_eq_true rfl) c13 ?_
        refine jCall.mono k (fun o h90 k => ?_)
        obtain ⟨v90, e, k⟩ := k
        subst e
        show jWp (d + 1) mX11_holds 93 [(0, jR a0), (1, jI a1), (2, jI a2), (3, jI a3), (4, jI a4), (5, jI ((90 * a1) + a3))] [jI v90] h90 Q
        refine wp_bipush dX11_holds_93 ⟨by decide, by decide⟩ ?_
        refine wp_icmp_lt 113 dX11_holds_95 rfl (fun q => ?_) (fun q => ?_)
        · replace k := k.1 q
          refine wp_sub [] (ls' := []) rfl ?_
          exact k
        · replace k := k.2 q
          refine wp_sub [0, 3] (ls' := [(0, jR a0), (3, jI a3)]) rfl ?_
          exact k
  · replace k := k.2 q
    refine wp_aload_n 0 dX11_holds_13 rfl ?_
    have c14 := k.1
    replace k := k.2
    refine wp_getR (ci := 8) (j := 17) rfl (by decide) gX11_63 dX11_holds_14 c14 rfl ?_
    refine wp_iload 5 dX11_holds_17 rfl ?_
    refine wp_iload 4 dX11_holds_19 rfl ?_
    refine wp_iconst dX11_holds_21 ⟨by decide, by decide⟩ ?_
    have c15 := k.1
    replace k := k.2
    refine wp_isub dX11_holds_22 c15 ?_
    refine wp_callS (y' := mX11_checkOf) (st := []) [jR (hR h 817 a0), jI ((90 * a1) + a3), jI (a4 - 1)] rfl fX11_checkOf kX11_300 nX11_checkOf dX11_holds_23 (Nat.le_of_ble_eq_true rfl) ?_
    refine jCall.mono k (fun o h23 k => ?_)
    obtain ⟨v23, e, k⟩ := k
    subst e
    show jWp (d + 1) mX11_holds 26 [(0, jR a0), (1, jI a1), (2, jI a2), (3, jI a3), (4, jI a4), (5, jI ((90 * a1) + a3))] [jI v23] h23 Q
    refine wp_aload_n 0 dX11_holds_26 rfl ?_
    have c16 := k.1
    replace k := k.2
    refine wp_getR (ci := 8) (j := 17) rfl (by decide) gX11_63 dX11_holds_27 c16 rfl ?_
    refine wp_iload 5 dX11_holds_30 rfl ?_
    refine wp_iload 4 dX11_holds_32 rfl ?_
    have c17 := k.1
    replace k := k.2
    refine wp_iadd dX11_holds_34 c17 ?_
    refine wp_iconst dX11_holds_35 ⟨by decide, by decide⟩ ?_
    have c18 := k.1
    replace k := k.2
    refine wp_isub dX11_holds_36 c18 ?_
    have c19 := k.1
    replace k := k.2
    have c20 := k.1
    replace k := k.2
    have c21 := k.1
    replace k := k.2
    refine wp_baload dX11_holds_37 c19 c20 c21 (fun q => ?_)
    have f22 := q
    replace k := k q
    refine wp_bipush dX11_holds_38 ⟨by decide, by decide⟩ ?_
    have c23 := k.1
    replace k := k.2
    refine wp_isub dX11_holds_40 c23 ?_
    refine wp_icmp_eq 63 dX11_holds_41 rfl (fun q => ?_) (fun q => ?_)
    · replace k := k.1 q
      refine wp_sub [] (ls' := []) rfl ?_
      exact k
    · replace k := k.2 q
      refine wp_aload_n 0 dX11_holds_44 rfl ?_
      refine wp_iconst dX11_holds_45 ⟨by decide, by decide⟩ ?_
      refine wp_aload_n 0 dX11_holds_46 rfl ?_
      refine wp_getR (ci := 8) (j := 27) rfl (by decide) gX11_95 dX11_holds_47 c16 rfl ?_
      refine wp_iload_n 3 dX11_holds_50 rfl ?_
      refine wp_iload 4 dX11_holds_51 rfl ?_
      have c24 := k.1
      replace k := k.2
      refine wp_iadd dX11_holds_53 c24 ?_
      refine wp_iconst dX11_holds_54 ⟨by decide, by decide⟩ ?_
      have c25 := k.1
      replace k := k.2
      refine wp_isub dX11_holds_55 c25 ?_
      have c26 := k.1
      replace k := k.2
      have c27 := k.1
      replace k := k.2
      have c28 := k.1
      replace k := k.2
      refine wp_iaload dX11_holds_56 c26 c27 c28 (fun q => ?_)
      have f29 := q
      replace k := k q
      refine wp_callV (ci := 8) (y' := mX11_fault) (st := []) [jI 5, jI (hA h23 (hR h23 827 a0) ((a3 + a4) - 1))] rfl rfl rfl fX11_fault kX11_304 nX11_fault dX11_holds_57 (Nat.le_of_ble_eq_true rfl) c16 ?_
      refine jCall.mono k (fun o h57 k => ?_)
      obtain ⟨v57, e, k⟩ := k
      subst e
      show jWp (d + 1) mX11_holds 60 [(0, jR a0), (1, jI a1), (2, jI a2), (3, jI a3), (4, jI a4), (5, jI ((90 * a1) + a3))] [jI v57] h57 Q
      refine wp_if_eq 67 dX11_holds_60 rfl (fun q => ?_) (fun q => ?_)
      · replace k := k.1 q
        refine wp_iconst dX11_holds_67 ⟨by decide, by decide⟩ ?_
        refine wp_sub [] (ls' := []) rfl ?_
        exact k
      · replace k := k.2 q
        refine wp_sub [] (ls' := []) rfl ?_
        exact k
theorem bX11_holds_179 {d : Nat} {h : jH} {Q : jO → jH → Prop} {a0 : Nat} {a3 : Int} (k : jOK h → j32 a3 → hK h a0 = 9 ∧ hK h (hR h 827 a0) = 10 ∧ 0 ≤ a3 ∧ a3 < hN h (hR h 827 a0) ∧ (j32 (hA h (hR h 827 a0) a3) → jCall d mX11_fault [jR a0, jI 6, jI (hA h (hR h 827 a0) a3)] h (fun o h188 => ∃ v188, o = .inl (some (jI v188)) ∧ (0 ≤ v188 ∧ v188 ≤ 1) ∧ Q (.inl (some (jI v188))) h188))) : jWp (d + 1) mX11_holds 179 [(0, jR a0), (3, jI a3)] [] h Q := by
  refine jw_ok (fun ok q => ?_)
  replace k := k ok (q _ (.tail _ (.head _)))
  refine wp_aload_n 0 dX11_holds_179 rfl ?_
  refine wp_bipush dX11_holds_180 ⟨by decide, by decide⟩ ?_
  refine wp_aload_n 0 dX11_holds_182 rfl ?_
  have c1 := k.1
  replace k := k.2
  refine wp_getR (ci := 8) (j := 27) rfl (by decide) gX11_95 dX11_holds_183 c1 rfl ?_
  refine wp_iload_n 1 dX11_holds_186 rfl ?_
  have c2 := k.1
  replace k := k.2
  have c3 := k.1
  replace k := k.2
  have c4 := k.1
  replace k := k.2
  refine wp_iaload dX11_holds_187 c2 c3 c4 (fun q => ?_)
  have f5 := q
  replace k := k q
  refine wp_callV (ci := 8) (y' := mX11_fault) (st := []) [jI 6, jI (hA h (hR h 827 a0) a3)] rfl rfl rfl fX11_fault kX11_304 nX11_fault dX11_holds_188 (Nat.le_of_ble_eq_true rfl) c1 ?_
  refine jCall.mono k (fun o h188 k => ?_)
  obtain ⟨v188, e, k⟩ := k
  subst e
  show jWp (d + 1) mX11_holds 191 [(0, jR a0), (3, jI a3)] [jI v188] h188 Q
  have c6 := k.1
  replace k := k.2
  exact wp_zreturn dX11_holds_191 rfl c6.1 c6.2 k
theorem bX11_holds_208 {d : Nat} {h : jH} {Q : jO → jH → Prop} {a6 : Int} {s0 : Int} {s1 : Int} {s2 : Nat} (k : jOK h → j32 a6 → j32 (s1 + s0) ∧ hK h s2 = 10 ∧ 0 ≤ (s1 + s0) ∧ (s1 + s0) < hN h s2 ∧ Q (.inl (some (jI 1))) (sA h s2 (s1 + s0) a6)) : jWp (d + 1) mX11_holds 208 [(6, jI a6)] [jI s0, jI s1, jR s2] h Q := by
  refine jw_ok (fun ok q => ?_)
  replace k := k ok (q _ (.head _))
  have c1 := k.1
  replace k := k.2
  refine wp_iadd dX11_holds_208 c1 ?_
  refine wp_iload 0 dX11_holds_209 rfl ?_
  have c2 := k.1
  replace k := k.2
  have c3 := k.1
  replace k := k.2
  have c4 := k.1
  replace k := k.2
  refine wp_iastore dX11_holds_211 c2 c3 c4 ?_
  refine wp_iconst dX11_holds_212 ⟨by decide, by decide⟩ ?_
  exact wp_zreturn dX11_holds_213 rfl (by decide) (by decide) k
theorem bX11_holds_98 {d : Nat} {h : jH} {Q : jO → jH → Prop} {a0 : Nat} {a3 : Int} (k : jOK h → j32 a3 → hK h a0 = 9 ∧ hK h (hR h 827 a0) = 10 ∧ 0 ≤ a3 ∧ a3 < hN h (hR h 827 a0) ∧ (j32 (hA h (hR h 827 a0) a3) → jCall d mX11_fault [jR a0, jI 6, jI (hA h (hR h 827 a0) a3)] h (fun o h107 => ∃ v107, o = .inl (some (jI v107)) ∧ ((v107 = 0 → jWp (d + 1) mX11_holds 118 [] [jI 0] h107 Q) ∧ (¬ (v107 = 0) → jWp (d + 1) mX11_holds 113 [] [] h107 Q))))) : jWp (d + 1) mX11_holds 98 [(0, jR a0), (3, jI a3)] [] h Q := by
  refine jw_ok (fun ok q => ?_)
  replace k := k ok (q _ (.tail _ (.head _)))
  refine wp_aload_n 0 dX11_holds_98 rfl ?_
  refine wp_bipush dX11_holds_99 ⟨by decide, by decide⟩ ?_
  refine wp_aload_n 0 dX11_holds_101 rfl ?_
  have c1 := k.1
  replace k := k.2
  refine wp_getR (ci := 8) (j := 27) rfl (by decide) gX11_95 dX11_holds_102 c1 rfl ?_
  refine wp_iload_n 1 dX11_holds_105 rfl ?_
  have c2 := k.1
  replace k := k.2
  have c3 := k.1
  replace k := k.2
  have c4 := k.1
  replace k := k.2
  refine wp_iaload dX11_holds_106 c2 c3 c4 (fun q => ?_)
  have f5 := q
  replace k := k q
  refine wp_callV (ci := 8) (y' := mX11_fault) (st := []) [jI 6, jI (hA h (hR h 827 a0) a3)] rfl rfl rfl fX11_fault kX11_304 nX11_fault dX11_holds_107 (Nat.le_of_ble_eq_true rfl) c1 ?_
  refine jCall.mono k (fun o h107 k => ?_)
  obtain ⟨v107, e, k⟩ := k
  subst e
  show jWp (d + 1) mX11_holds 110 [(0, jR a0), (3, jI a3)] [jI v107] h107 Q
  refine wp_if_eq 117 dX11_holds_110 rfl (fun q => ?_) (fun q => ?_)
  · replace k := k.1 q
    refine wp_iconst dX11_holds_117 ⟨by decide, by decide⟩ ?_
    refine wp_sub [] (ls' := []) rfl ?_
    exact k
  · replace k := k.2 q
    refine wp_sub [] (ls' := []) rfl ?_
    exact k
theorem bX11_holds_113 {d : Nat} {h : jH} {Q : jO → jH → Prop}  (k : jOK h → jWp (d + 1) mX11_holds 118 [] [jI 1] h Q) : jWp (d + 1) mX11_holds 113 [] [] h Q := by
  refine jw_ok (fun ok q => ?_)
  replace k := k ok 
  refine wp_iconst dX11_holds_113 ⟨by decide, by decide⟩ ?_
  refine wp_goto 118 dX11_holds_114 rfl ?_
  exact k
theorem bX11_holds_63 {d : Nat} {h : jH} {Q : jO → jH → Prop}  (k : jOK h → jWp (d + 1) mX11_holds 68 [] [jI 1] h Q) : jWp (d + 1) mX11_holds 63 [] [] h Q := by
  refine jw_ok (fun ok q => ?_)
  replace k := k ok 
  refine wp_iconst dX11_holds_63 ⟨by decide, by decide⟩ ?_
  refine wp_goto 68 dX11_holds_64 rfl ?_
  exact k
theorem bX11_holds_68 {d : Nat} {h : jH} {Q : jO → jH → Prop} {s0 : Int} (k : jOK h → (0 ≤ s0 ∧ s0 ≤ 1) ∧ Q (.inl (some (jI s0))) h) : jWp (d + 1) mX11_holds 68 [] [jI s0] h Q := by
  refine jw_ok (fun ok q => ?_)
  replace k := k ok 
  have c1 := k.1
  replace k := k.2
  exact wp_zreturn dX11_holds_68 rfl c1.1 c1.2 k
theorem bX11_holds_118 {d : Nat} {h : jH} {Q : jO → jH → Prop} {s0 : Int} (k : jOK h → (0 ≤ s0 ∧ s0 ≤ 1) ∧ Q (.inl (some (jI s0))) h) : jWp (d + 1) mX11_holds 118 [] [jI s0] h Q := by
  refine jw_ok (fun ok q => ?_)
  replace k := k ok 
  have c1 := k.1
  replace k := k.2
  exact wp_zreturn dX11_holds_118 rfl c1.1 c1.2 k
theorem bX11_value {d : Nat} {h : jH} {Q : jO → jH → Prop} {a0 : Nat} {a1 : Int} {a2 : Int} (k : jOK h → j32 a1 → j32 a2 → hK h a0 = 9 ∧ (j32 (hI h 826 a0) → (((hI h 826 a0) ≠ 0 → hK h (hR h 804 a0) = 10 ∧ 0 ≤ a2 ∧ a2 < hN h (hR h 804 a0) ∧ (j32 (hA h (hR h 804 a0) a2) → jWp (d + 1) mX11_value 32 [(0, jR a0), (1, jI a1), (2, jI a2), (3, jI 0), (4, jI 0), (5, jI (hA h (hR h 804 a0) a2))] [] h Q)) ∧ ((hI h 826 a0) = 0 → jCall d mX11_isFixed [jR a0, jI a2] h (fun o h9 => ∃ v9, o = .inl (some (jI v9)) ∧ ((v9 = 0 → hK h9 a0 = 9 ∧ hK h9 (hR h9 804 a0) = 10 ∧ 0 ≤ a2 ∧ a2 < hN h9 (hR h9 804 a0) ∧ (j32 (hA h9 (hR h9 804 a0) a2) → jWp (d + 1) mX11_value 32 [(0, jR a0), (1, jI a1), (2, jI a2), (3, jI 0), (4, jI 0), (5, jI (hA h9 (hR h9 804 a0) a2))] [] h9 Q)) ∧ (¬ (v9 = 0) → hK h9 a0 = 9 ∧ hK h9 (hR h9 804 a0) = 10 ∧ 0 ≤ a2 ∧ a2 < hN h9 (hR h9 804 a0) ∧ (j32 (hA h9 (hR h9 804 a0) a2) → jWp (d + 1) mX11_value 32 [(0, jR a0), (1, jI a1), (2, jI a2), (3, jI 1), (4, jI 0), (5, jI (hA h9 (hR h9 804 a0) a2))] [] h9 Q)))))))) : jCall (d + 1) mX11_value [jR a0, jI a1, jI a2] h Q := by
  refine jCall_of plX11 (Nat.le_of_ble_eq_true rfl) ?_
  show jWp (d + 1) mX11_value 0 [(0, jR a0), (1, jI a1), (2, jI a2)] [] h Q
  refine jw_ok (fun ok q => ?_)
  replace k := k ok (q _ (.tail _ (.head _))) (q _ (.tail _ (.tail _ (.head _))))
  refine wp_aload_n 0 dX11_value_0 rfl ?_
  have c1 := k.1
  replace k := k.2
  refine wp_getI (ci := 8) (j := 26) rfl (by decide) gX11_91 dX11_value_1 c1 rfl (fun q => ?_)
  have f2 := q
  replace k := k q
  refine wp_if_ne 19 dX11_value_4 rfl (fun q => ?_) (fun q => ?_)
  · replace k := k.1 q
    refine wp_iconst dX11_value_19 ⟨by decide, by decide⟩ ?_
    refine wp_istore_n [1, 2, 3, 0] (ls' := [(0, jR a0), (1, jI a1), (2, jI a2), (3, jI 0)]) dX11_value_20 (by decide) rfl ?_
    refine wp_iconst dX11_value_21 ⟨by decide, by decide⟩ ?_
    refine wp_istore [1, 2, 3, 4, 0] (ls' := [(0, jR a0), (1, jI a1), (2, jI a2), (3, jI 0), (4, jI 0)]) dX11_value_22 (by decide) rfl ?_
    refine wp_aload_n 0 dX11_value_24 rfl ?_
    refine wp_getR (ci := 8) (j := 4) rfl (by decide) gX11_22 dX11_value_25 c1 rfl ?_
    refine wp_iload_n 2 dX11_value_28 rfl ?_
    have c3 := k.1
    replace k := k.2
    have c4 := k.1
    replace k := k.2
    have c5 := k.1
    replace k := k.2
    refine wp_iaload dX11_value_29 c3 c4 c5 (fun q => ?_)
    have f6 := q
    replace k := k q
    refine wp_istore [1, 2, 3, 4, 5, 0] (ls' := [(0, jR a0), (1, jI a1), (2, jI a2), (3, jI 0), (4, jI 0), (5, jI (hA h (hR h 804 a0) a2))]) dX11_value_30 (by decide) rfl ?_
    exact k
  · replace k := k.2 q
    refine wp_aload_n 0 dX11_value_7 rfl ?_
    refine wp_iload_n 2 dX11_value_8 rfl ?_
    refine wp_callV (ci := 8) (y' := mX11_isFixed) (st := []) [jI a2] rfl rfl rfl fX11_isFixed kX11_317 nX11_isFixed dX11_value_9 (Nat.le_of_ble_eq_true rfl) c1 ?_
    refine jCall.mono k (fun o h9 k => ?_)
    obtain ⟨v9, e, k⟩ := k
    subst e
    show jWp (d + 1) mX11_value 12 [(0, jR a0), (1, jI a1), (2, jI a2)] [jI v9] h9 Q
    refine wp_if_eq 19 dX11_value_12 rfl (fun q => ?_) (fun q => ?_)
    · replace k := k.1 q
      refine wp_iconst dX11_value_19 ⟨by decide, by decide⟩ ?_
      refine wp_istore_n [1, 2, 3, 0] (ls' := [(0, jR a0), (1, jI a1), (2, jI a2), (3, jI 0)]) dX11_value_20 (by decide) rfl ?_
      refine wp_iconst dX11_value_21 ⟨by decide, by decide⟩ ?_
      refine wp_istore [1, 2, 3, 4, 0] (ls' := [(0, jR a0), (1, jI a1), (2, jI a2), (3, jI 0), (4, jI 0)]) dX11_value_22 (by decide) rfl ?_
      refine wp_aload_n 0 dX11_value_24 rfl ?_
      have c7 := k.1
      replace k := k.2
      refine wp_getR (ci := 8) (j := 4) rfl (by decide) gX11_22 dX11_value_25 c7 rfl ?_
      refine wp_iload_n 2 dX11_value_28 rfl ?_
      have c8 := k.1
      replace k := k.2
      have c9 := k.1
      replace k := k.2
      have c10 := k.1
      replace k := k.2
      refine wp_iaload dX11_value_29 c8 c9 c10 (fun q => ?_)
      have f11 := q
      replace k := k q
      refine wp_istore [1, 2, 3, 4, 5, 0] (ls' := [(0, jR a0), (1, jI a1), (2, jI a2), (3, jI 0), (4, jI 0), (5, jI (hA h9 (hR h9 804 a0) a2))]) dX11_value_30 (by decide) rfl ?_
      exact k
    · replace k := k.2 q
      refine wp_iconst dX11_value_15 ⟨by decide, by decide⟩ ?_
      refine wp_goto 20 dX11_value_16 rfl ?_
      refine wp_istore_n [1, 2, 3, 0] (ls' := [(0, jR a0), (1, jI a1), (2, jI a2), (3, jI 1)]) dX11_value_20 (by decide) rfl ?_
      refine wp_iconst dX11_value_21 ⟨by decide, by decide⟩ ?_
      refine wp_istore [1, 2, 3, 4, 0] (ls' := [(0, jR a0), (1, jI a1), (2, jI a2), (3, jI 1), (4, jI 0)]) dX11_value_22 (by decide) rfl ?_
      refine wp_aload_n 0 dX11_value_24 rfl ?_
      have c12 := k.1
      replace k := k.2
      refine wp_getR (ci := 8) (j := 4) rfl (by decide) gX11_22 dX11_value_25 c12 rfl ?_
      refine wp_iload_n 2 dX11_value_28 rfl ?_
      have c13 := k.1
      replace k := k.2
      have c14 := k.1
      replace k := k.2
      have c15 := k.1
      replace k := k.2
      refine wp_iaload dX11_value_29 c13 c14 c15 (fun q => ?_)
      have f16 := q
      replace k := k q
      refine wp_istore [1, 2, 3, 4, 5, 0] (ls' := [(0, jR a0), (1, jI a1), (2, jI a2), (3, jI 1), (4, jI 0), (5, jI (hA h9 (hR h9 804 a0) a2))]) dX11_value_30 (by decide) rfl ?_
      exact k
theorem bX11_value_32 {d : Nat} {h : jH} {Q : jO → jH → Prop} {a0 : Nat} {a1 : Int} {a2 : Int} {a3 : Int} {a4 : Int} {a5 : Int} (k : jOK h → j32 a1 → j32 a2 → j32 a3 → j32 a4 → j32 a5 → hK h a0 = 9 ∧ hK h (hR h 804 a0) = 10 ∧ 0 ≤ a2 ∧ a2 < hN h (hR h 804 a0) ∧ (j32 (hA h (hR h 804 a0) a2) → hK h (hR h 805 a0) = 10 ∧ a2 < hN h (hR h 805 a0) ∧ (j32 (hA h (hR h 805 a0) a2) → j32 ((hA h (hR h 804 a0) a2) + (hA h (hR h 805 a0) a2)) ∧ ((((hA h (hR h 804 a0) a2) + (hA h (hR h 805 a0) a2)) ≤ a5 → ((a3 ≠ 0 → jWp (d + 1) mX11_value 288 [(0, jR a0), (1, jI a1), (2, jI a2), (4, jI a4)] [] h Q) ∧ (a3 = 0 → jCall d mX11_ended [jR a0] h (fun o h272 => ∃ v272, o = .inl (some (jI v272)) ∧ ((v272 ≠ 0 → jWp (d + 1) mX11_value 288 [(0, jR a0), (1, jI a1), (2, jI a2), (4, jI a4)] [] h272 Q) ∧ (v272 = 0 → hK h272 a0 = 9 ∧ (j32 (hI h272 825 a0) → jCall d mX11_fault [jR a0, jI 3, jI (hI h272 825 a0)] h272 (fun o h284 => ∃ v284, o = .inl (some (jI v284)) ∧ (0 ≤ v284 ∧ v284 ≤ 1) ∧ Q (.inl (some (jI v284))) h284)))))))) ∧ (¬ (((hA h (hR h 804 a0) a2) + (hA h (hR h 805 a0) a2)) ≤ a5) → hK h (hR h 810 a0) = 12 ∧ 0 ≤ a5 ∧ a5 < hN h (hR h 810 a0) ∧ ((0 ≤ hA h (hR h 810 a0) a5 ∧ hA h (hR h 810 a0) a5 ≤ 1) → (((hA h (hR h 810 a0) a5) = 0 → jWp (d + 1) mX11_value 74 [(0, jR a0), (1, jI a1), (2, jI a2), (3, jI a3), (4, jI a4), (5, jI a5), (6, jI a4)] [] h Q) ∧ (¬ ((hA h (hR h 810 a0) a5) = 0) → jCall d mX11_ended [jR a0] h (fun o h61 => ∃ v61, o = .inl (some (jI v61)) ∧ ((v61 = 0 → jWp (d + 1) mX11_value 74 [(0, jR a0), (1, jI a1), (2, jI a2), (3, jI a3), (4, jI a4), (5, jI a5), (6, jI a4)] [] h61 Q) ∧ (¬ (v61 = 0) → ((a3 ≠ 0 → jWp (d + 1) mX11_value 288 [(0, jR a0), (1, jI a1), (2, jI a2), (4, jI a4)] [] h61 Q) ∧ (a3 = 0 → hK h61 a0 = 9 ∧ jCall d mX11_ended [jR a0] h61 (fun o h272_1 => ∃ v272_1, o = .inl (some (jI v272_1)) ∧ ((v272_1 ≠ 0 → jWp (d + 1) mX11_value 288 [(0, jR a0), (1, jI a1), (2, jI a2), (4, jI a4)] [] h272_1 Q) ∧ (v272_1 = 0 → hK h272_1 a0 = 9 ∧ (j32 (hI h272_1 825 a0) → jCall d mX11_fault [jR a0, jI 3, jI (hI h272_1 825 a0)] h272_1 (fun o h284_1 => ∃ v284_1, o = .inl (some (jI v284_1)) ∧ (0 ≤ v284_1 ∧ v284_1 ≤ 1) ∧ Q (.inl (some (jI v284_1))) h284_1)))))))))))))))))) : jWp (d + 1) mX11_value 32 [(0, jR a0), (1, jI a1), (2, jI a2), (3, jI a3), (4, jI a4), (5, jI a5)] [] h Q := by
  refine jw_ok (fun ok q => ?_)
  replace k := k ok (q _ (.tail _ (.head _))) (q _ (.tail _ (.tail _ (.head _)))) (q _ (.tail _ (.tail _ (.tail _ (.head _))))) (q _ (.tail _ (.tail _ (.tail _ (.tail _ (.head _)))))) (q _ (.tail _ (.tail _ (.tail _ (.tail _ (.tail _ (.head _)))))))
  refine wp_iload 5 dX11_value_32 rfl ?_
  refine wp_aload_n 0 dX11_value_34 rfl ?_
  have c1 := k.1
  replace k := k.2
  refine wp_getR (ci := 8) (j := 4) rfl (by decide) gX11_22 dX11_value_35 c1 rfl ?_
  refine wp_iload_n 2 dX11_value_38 rfl ?_
  have c2 := k.1
  replace k := k.2
  have c3 := k.1
  replace k := k.2
  have c4 := k.1
  replace k := k.2
  refine wp_iaload dX11_value_39 c2 c3 c4 (fun q => ?_)
  have f5 := q
  replace k := k q
  refine wp_aload_n 0 dX11_value_40 rfl ?_
  refine wp_getR (ci := 8) (j := 5) rfl (by decide) gX11_25 dX11_value_41 c1 rfl ?_
  refine wp_iload_n 2 dX11_value_44 rfl ?_
  have c6 := k.1
  replace k := k.2
  have c7 := k.1
  replace k := k.2
  refine wp_iaload dX11_value_45 c6 c3 c7 (fun q => ?_)
  have f8 := q
  replace k := k q
  have c9 := k.1
  replace k := k.2
  refine wp_iadd dX11_value_46 c9 ?_
  refine wp_icmp_ge 267 dX11_value_47 rfl (fun q => ?_) (fun q => ?_)
  · replace k := k.1 q
    refine wp_iload_n 3 dX11_value_267 rfl ?_
    refine wp_if_ne 288 dX11_value_268 rfl (fun q => ?_) (fun q => ?_)
    · replace k := k.1 q
      refine wp_sub [0, 1, 2, 4] (ls' := [(0, jR a0), (1, jI a1), (2, jI a2), (4, jI a4)]) rfl ?_
      exact k
    · replace k := k.2 q
      refine wp_aload_n 0 dX11_value_271 rfl ?_
      refine wp_callV (ci := 8) (y' := mX11_ended) (st := []) [] rfl rfl rfl fX11_ended kX11_321 nX11_ended dX11_value_272 (Nat.le_of_ble_eq_true rfl) c1 ?_
      refine jCall.mono k (fun o h272 k => ?_)
      obtain ⟨v272, e, k⟩ := k
      subst e
      show jWp (d + 1) mX11_value 275 [(0, jR a0), (1, jI a1), (2, jI a2), (3, jI a3), (4, jI a4), (5, jI a5)] [jI v272] h272 Q
      refine wp_if_ne 288 dX11_value_275 rfl (fun q => ?_) (fun q => ?_)
      · replace k := k.1 q
        refine wp_sub [0, 1, 2, 4] (ls' := [(0, jR a0), (1, jI a1), (2, jI a2), (4, jI a4)]) rfl ?_
        exact k
      · replace k := k.2 q
        refine wp_aload_n 0 dX11_value_278 rfl ?_
        refine wp_iconst dX11_value_279 ⟨by decide, by decide⟩ ?_
        refine wp_aload_n 0 dX11_value_280 rfl ?_
        have c10 := k.1
        replace k := k.2
        refine wp_getI (ci := 8) (j := 25) rfl (by decide) gX11_88 dX11_value_281 c10 rfl (fun q => ?_)
        have f11 := q
        replace k := k q
        refine wp_callV (ci := 8) (y' := mX11_fault) (st := []) [jI 3, jI (hI h272 825 a0)] rfl rfl rfl fX11_fault kX11_304 nX11_fault dX11_value_284 (Nat.le_of_ble_eq_true rfl) c10 ?_
        refine jCall.mono k (fun o h284 k => ?_)
        obtain ⟨v284, e, k⟩ := k
        subst e
        show jWp (d + 1) mX11_value 287 [(0, jR a0), (1, jI a1), (2, jI a2), (3, jI a3), (4, jI a4), (5, jI a5)] [jI v284] h284 Q
        have c12 := k.1
        replace k := k.2
        exact wp_zreturn dX11_value_287 rfl c12.1 c12.2 k
  · replace k := k.2 q
    refine wp_aload_n 0 dX11_value_50 rfl ?_
    refine wp_getR (ci := 8) (j := 10) rfl (by decide) gX11_41 dX11_value_51 c1 rfl ?_
    refine wp_iload 5 dX11_value_54 rfl ?_
    have c13 := k.1
    replace k := k.2
    have c14 := k.1
    replace k := k.2
    have c15 := k.1
    replace k := k.2
    refine wp_zaload dX11_value_56 c13 c14 c15 (fun q => ?_)
    have f16 := q
    replace k := k q
    refine wp_if_eq 70 dX11_value_57 rfl (fun q => ?_) (fun q => ?_)
    · replace k := k.1 q
      refine wp_iload 4 dX11_value_70 rfl ?_
      refine wp_istore [1, 2, 3, 4, 5, 6, 0] (ls' := [(0, jR a0), (1, jI a1), (2, jI a2), (3, jI a3), (4, jI a4), (5, jI a5), (6, jI a4)]) dX11_value_72 (by decide) rfl ?_
      exact k
    · replace k := k.2 q
      refine wp_aload_n 0 dX11_value_60 rfl ?_
      refine wp_callV (ci := 8) (y' := mX11_ended) (st := []) [] rfl rfl rfl fX11_ended kX11_321 nX11_ended dX11_value_61 (Nat.le_of_ble_eq_true rfl) c1 ?_
      refine jCall.mono k (fun o h61 k => ?_)
      obtain ⟨v61, e, k⟩ := k
      subst e
      show jWp (d + 1) mX11_value 64 [(0, jR a0), (1, jI a1), (2, jI a2), (3, jI a3), (4, jI a4), (5, jI a5)] [jI v61] h61 Q
      refine wp_if_eq 70 dX11_value_64 rfl (fun q => ?_) (fun q => ?_)
      · replace k := k.1 q
        refine wp_iload 4 dX11_value_70 rfl ?_
        refine wp_istore [1, 2, 3, 4, 5, 6, 0] (ls' := [(0, jR a0), (1, jI a1), (2, jI a2), (3, jI a3), (4, jI a4), (5, jI a5), (6, jI a4)]) dX11_value_72 (by decide) rfl ?_
        exact k
      · replace k := k.2 q
        refine wp_goto 267 dX11_value_67 rfl ?_
        refine wp_iload_n 3 dX11_value_267 rfl ?_
        refine wp_if_ne 288 dX11_value_268 rfl (fun q => ?_) (fun q => ?_)
        · replace k := k.1 q
          refine wp_sub [0, 1, 2, 4] (ls' := [(0, jR a0), (1, jI a1), (2, jI a2), (4, jI a4)]) rfl ?_
          exact k
        · replace k := k.2 q
          refine wp_aload_n 0 dX11_value_271 rfl ?_
          have c17 := k.1
          replace k := k.2
          refine wp_callV (ci := 8) (y' := mX11_ended) (st := []) [] rfl rfl rfl fX11_ended kX11_321 nX11_ended dX11_value_272 (Nat.le_of_ble_eq_true rfl) c17 ?_
          refine jCall.mono k (fun o h272_1 k => ?_)
          obtain ⟨v272_1, e, k⟩ := k
          subst e
          show jWp (d + 1) mX11_value 275 [(0, jR a0), (1, jI a1), (2, jI a2), (3, jI a3), (4, jI a4), (5, jI a5)] [jI v272_1] h272_1 Q
          refine wp_if_ne 288 dX11_value_275 rfl (fun q => ?_) (fun q => ?_)
          · replace k := k.1 q
            refine wp_sub [0, 1, 2, 4] (ls' := [(0, jR a0), (1, jI a1), (2, jI a2), (4, jI a4)]) rfl ?_
            exact k
          · replace k := k.2 q
            refine wp_aload_n 0 dX11_value_278 rfl ?_
            refine wp_iconst dX11_value_279 ⟨by decide, by decide⟩ ?_
            refine wp_aload_n 0 dX11_value_280 rfl ?_
            have c18 := k.1
            replace k := k.2
            refine wp_getI (ci := 8) (j := 25) rfl (by decide) gX11_88 dX11_value_281 c18 rfl (fun q => ?_)
            have f19 := q
            replace k := k q
            refine wp_callV (ci := 8) (y' := mX11_fault) (st := []) [jI 3, jI (hI h272_1 825 a0)] rfl rfl rfl fX11_fault kX11_304 nX11_fault dX11_value_284 (Nat.le_of_ble_eq_true rfl) c18 ?_
            refine jCall.mono k (fun o h284_1 k => ?_)
            obtain ⟨v284_1, e, k⟩ := k
            subst e
            show jWp (d + 1) mX11_value 287 [(0, jR a0), (1, jI a1), (2, jI a2), (3, jI a3), (4, jI a4), (5, jI a5)] [jI v284_1] h284_1 Q
            have c20 := k.1
            replace k := k.2
            exact wp_zreturn dX11_value_287 rfl c20.1 c20.2 k
theorem bX11_value_288 {d : Nat} {h : jH} {Q : jO → jH → Prop} {a0 : Nat} {a1 : Int} {a2 : Int} {a4 : Int} (k : jOK h → j32 a1 → j32 a2 → j32 a4 → hK h a0 = 9 ∧ hK h (hR h 814 a0) = 10 ∧ 0 ≤ a1 ∧ a1 < hN h (hR h 814 a0) ∧ hK h (hR h 815 a0) = 10 ∧ a1 < hN h (hR h 815 a0) ∧ Q (.inl (some (jI 1))) (sA (sA h (hR h 814 a0) a1 a2) (hR h 815 a0) a1 a4)) : jWp (d + 1) mX11_value 288 [(0, jR a0), (1, jI a1), (2, jI a2), (4, jI a4)] [] h Q := by
  refine jw_ok (fun ok q => ?_)
  replace k := k ok (q _ (.tail _ (.head _))) (q _ (.tail _ (.tail _ (.head _)))) (q _ (.tail _ (.tail _ (.tail _ (.head _)))))
  refine wp_aload_n 0 dX11_value_288 rfl ?_
  have c1 := k.1
  replace k := k.2
  refine wp_getR (ci := 8) (j := 14) rfl (by decide) gX11_54 dX11_value_289 c1 rfl ?_
  refine wp_iload_n 1 dX11_value_292 rfl ?_
  refine wp_iload_n 2 dX11_value_293 rfl ?_
  have c2 := k.1
  replace k := k.2
  have c3 := k.1
  replace k := k.2
  have c4 := k.1
  replace k := k.2
  refine wp_iastore dX11_value_294 c2 c3 c4 ?_
  refine wp_aload_n 0 dX11_value_295 rfl ?_
  refine wp_getR (ci := 8) (j := 15) rfl (by decide) gX11_57 dX11_value_296 c1 rfl ?_
  refine wp_iload_n 1 dX11_value_299 rfl ?_
  refine wp_iload 3 dX11_value_300 rfl ?_
  have c5 := k.1
  replace k := k.2
  have c6 := k.1
  replace k := k.2
  refine wp_iastore dX11_value_302 c5 c3 c6 ?_
  refine wp_iconst dX11_value_303 ⟨by decide, by decide⟩ ?_
  exact wp_zreturn dX11_value_304 rfl (by decide) (by decide) k
theorem bX11_value_74 {d : Nat} {h : jH} {Q : jO → jH → Prop} {a0 : Nat} {a1 : Int} {a2 : Int} {a3 : Int} {a4 : Int} {a5 : Int} {a6 : Int} (k : jOK h → j32 a1 → j32 a2 → j32 a3 → j32 a4 → j32 a5 → j32 a6 → j32 (a4 - a6) ∧ hK h a0 = 9 ∧ hK h (hR h 809 a0) = 10 ∧ 0 ≤ a5 ∧ a5 < hN h (hR h 809 a0) ∧ (j32 (hA h (hR h 809 a0) a5) → (((hA h (hR h 809 a0) a5) ≤ (a4 - a6) → hK h (hR h 807 a0) = 10 ∧ a5 < hN h (hR h 807 a0) ∧ (j32 (hA h (hR h 807 a0) a5) → jCall d mX11_holds [jR a0, jI a1, jI (hA h (hR h 807 a0) a5), jI a6, jI (a4 - a6)] h (fun o h253 => ∃ v253, o = .inl (some (jI v253)) ∧ ((v253 ≠ 0 → j32 (a5 + 1) ∧ jWp (d + 1) mX11_value 32 [(0, jR a0), (1, jI a1), (2, jI a2), (3, jI a3), (4, jI a4), (5, jI (a5 + 1))] [] h253 Q) ∧ (v253 = 0 → Q (.inl (some (jI 0))) h253))))) ∧ (¬ ((hA h (hR h 809 a0) a5) ≤ (a4 - a6)) → hK h (hR h 808 a0) = 10 ∧ a5 < hN h (hR h 808 a0) ∧ (j32 (hA h (hR h 808 a0) a5) → (((a4 - a6) < (hA h (hR h 808 a0) a5) → jWp (d + 1) mX11_value 111 [(0, jR a0), (1, jI a1), (2, jI a2), (3, jI a3), (4, jI a4), (5, jI a5), (6, jI a6)] [] h Q) ∧ (¬ ((a4 - a6) < (hA h (hR h 808 a0) a5)) → jCall d mX11_ended [jR a0] h (fun o h105 => ∃ v105, o = .inl (some (jI v105)) ∧ ((v105 ≠ 0 → hK h105 a0 = 9 ∧ hK h105 (hR h105 807 a0) = 10 ∧ 0 ≤ a5 ∧ a5 < hN h105 (hR h105 807 a0) ∧ (j32 (hA h105 (hR h105 807 a0) a5) → j32 (a4 - a6) ∧ jCall d mX11_holds [jR a0, jI a1, jI (hA h105 (hR h105 807 a0) a5), jI a6, jI (a4 - a6)] h105 (fun o h253_1 => ∃ v253_1, o = .inl (some (jI v253_1)) ∧ ((v253_1 ≠ 0 → j32 (a5 + 1) ∧ jWp (d + 1) mX11_value 32 [(0, jR a0), (1, jI a1), (2, jI a2), (3, jI a3), (4, jI a4), (5, jI (a5 + 1))] [] h253_1 Q) ∧ (v253_1 = 0 → Q (.inl (some (jI 0))) h253_1))))) ∧ (v105 = 0 → jWp (d + 1) mX11_value 111 [(0, jR a0), (1, jI a1), (2, jI a2), (3, jI a3), (4, jI a4), (5, jI a5), (6, jI a6)] [] h105 Q)))))))))) : jWp (d + 1) mX11_value 74 [(0, jR a0), (1, jI a1), (2, jI a2), (3, jI a3), (4, jI a4), (5, jI a5), (6, jI a6)] [] h Q := by
  refine jw_ok (fun ok q => ?_)
  replace k := k ok (q _ (.tail _ (.head _))) (q _ (.tail _ (.tail _ (.head _)))) (q _ (.tail _ (.tail _ (.tail _ (.head _))))) (q _ (.tail _ (.tail _ (.tail _ (.tail _ (.head _)))))) (q _ (.tail _ (.tail _ (.tail _ (.tail _ (.tail _ (.head _))))))) (q _ (.tail _ (.tail _ (.tail _ (.tail _ (.tail _ (.tail _ (.head _))))))))
  refine wp_iload 4 dX11_value_74 rfl ?_
  refine wp_iload 6 dX11_value_76 rfl ?_
  have c1 := k.1
  replace k := k.2
  refine wp_isub dX11_value_78 c1 ?_
  refine wp_aload_n 0 dX11_value_79 rfl ?_
  have c2 := k.1
  replace k := k.2
  refine wp_getR (ci := 8) (j := 9) rfl (by decide) gX11_38 dX11_value_80 c2 rfl ?_
  refine wp_iload 5 dX11_value_83 rfl ?_
  have c3 := k.1
  replace k := k.2
  have c4 := k.1
  replace k := k.2
  have c5 := k.1
  replace k := k.2
  refine wp_iaload dX11_value_85 c3 c4 c5 (fun q => ?_)
  have f6 := q
  replace k := k q
  refine wp_icmp_ge 237 dX11_value_86 rfl (fun q => ?_) (fun q => ?_)
  · replace k := k.1 q
    refine wp_aload_n 0 dX11_value_237 rfl ?_
    refine wp_iload_n 1 dX11_value_238 rfl ?_
    refine wp_aload_n 0 dX11_value_239 rfl ?_
    refine wp_getR (ci := 8) (j := 7) rfl (by decide) gX11_32 dX11_value_240 c2 rfl ?_
    refine wp_iload 5 dX11_value_243 rfl ?_
    have c7 := k.1
    replace k := k.2
    have c8 := k.1
    replace k := k.2
    refine wp_iaload dX11_value_245 c7 c4 c8 (fun q => ?_)
    have f9 := q
    replace k := k q
    refine wp_iload 6 dX11_value_246 rfl ?_
    refine wp_iload 4 dX11_value_248 rfl ?_
    refine wp_iload 6 dX11_value_250 rfl ?_
    refine wp_isub dX11_value_252 c1 ?_
    refine wp_callV (ci := 8) (y' := mX11_holds) (st := []) [jI a1, jI (hA h (hR h 807 a0) a5), jI a6, jI (a4 - a6)] rfl rfl rfl fX11_holds kX11_338 nX11_holds dX11_value_253 (Nat.le_of_ble_eq_true rfl) c2 ?_
    refine jCall.mono k (fun o h253 k => ?_)
    obtain ⟨v253, e, k⟩ := k
    subst e
    show jWp (d + 1) mX11_value 256 [(0, jR a0), (1, jI a1), (2, jI a2), (3, jI a3), (4, jI a4), (5, jI a5), (6, jI a6)] [jI v253] h253 Q
    refine wp_if_ne 261 dX11_value_256 rfl (fun q => ?_) (fun q => ?_)
    · replace k := k.1 q
      have c10 := k.1
      replace k := k.2
      refine wp_iinc 5 [1, 2, 3, 4, 5, 0] (ls' := [(0, jR a0), (1, jI a1), (2, jI a2), (3, jI a3), (4, jI a4), (5, jI (a5 + 1))]) dX11_value_261 rfl c10 ⟨by decide, by decide⟩ (by decide) rfl ?_
      refine wp_goto 32 dX11_value_264 rfl ?_
      exact k
    · replace k := k.2 q
      refine wp_iconst dX11_value_259 ⟨by decide, by decide⟩ ?_
      exact wp_zreturn dX11_value_260 rfl (by decide) (by decide) k
  · replace k := k.2 q
    refine wp_iload 4 dX11_value_89 rfl ?_
    refine wp_iload 6 dX11_value_91 rfl ?_
    refine wp_isub dX11_value_93 c1 ?_
    refine wp_aload_n 0 dX11_value_94 rfl ?_
    refine wp_getR (ci := 8) (j := 8) rfl (by decide) gX11_35 dX11_value_95 c2 rfl ?_
    refine wp_iload 5 dX11_value_98 rfl ?_
    have c11 := k.1
    replace k := k.2
    have c12 := k.1
    replace k := k.2
    refine wp_iaload dX11_value_100 c11 c4 c12 (fun q => ?_)
    have f13 := q
    replace k := k q
    refine wp_icmp_lt 111 dX11_value_101 rfl (fun q => ?_) (fun q => ?_)
    · replace k := k.1 q
      exact k
    · replace k := k.2 q
      refine wp_aload_n 0 dX11_value_104 rfl ?_
      refine wp_callV (ci := 8) (y' := mX11_ended) (st := []) [] rfl rfl rfl fX11_ended kX11_321 nX11_ended dX11_value_105 (Nat.le_of_ble_eq_true rfl) c2 ?_
      refine jCall.mono k (fun o h105 k => ?_)
      obtain ⟨v105, e, k⟩ := k
      subst e
      show jWp (d + 1) mX11_value 108 [(0, jR a0), (1, jI a1), (2, jI a2), (3, jI a3), (4, jI a4), (5, jI a5), (6, jI a6)] [jI v105] h105 Q
      refine wp_if_ne 237 dX11_value_108 rfl (fun q => ?_) (fun q => ?_)
      · replace k := k.1 q
        refine wp_aload_n 0 dX11_value_237 rfl ?_
        refine wp_iload_n 1 dX11_value_238 rfl ?_
        refine wp_aload_n 0 dX11_value_239 rfl ?_
        have c14 := k.1
        replace k := k.2
        refine wp_getR (ci := 8) (j := 7) rfl (by decide) gX11_32 dX11_value_240 c14 rfl ?_
        refine wp_iload 5 dX11_value_243 rfl ?_
        have c15 := k.1
        replace k := k.2
        have c16 := k.1
        replace k := k.2
        have c17 := k.1
        replace k := k.2
        refine wp_iaload dX11_value_245 c15 c16 c17 (fun q => ?_)
        have f18 := q
        replace k := k q
        refine wp_iload 6 dX11_value_246 rfl ?_
        refine wp_iload 4 dX11_value_248 rfl ?_
        refine wp_iload 6 dX11_value_250 rfl ?_
        have c19 := k.1
        replace k := k.2
        refine wp_isub dX11_value_252 c19 ?_
        refine wp_callV (ci := 8) (y' := mX11_holds) (st := []) [jI a1, jI (hA h105 (hR h105 807 a0) a5), jI a6, jI (a4 - a6)] rfl rfl rfl fX11_holds kX11_338 nX11_holds dX11_value_253 (Nat.le_of_ble_eq_true rfl) c14 ?_
        refine jCall.mono k (fun o h253_1 k => ?_)
        obtain ⟨v253_1, e, k⟩ := k
        subst e
        show jWp (d + 1) mX11_value 256 [(0, jR a0), (1, jI a1), (2, jI a2), (3, jI a3), (4, jI a4), (5, jI a5), (6, jI a6)] [jI v253_1] h253_1 Q
        refine wp_if_ne 261 dX11_value_256 rfl (fun q => ?_) (fun q => ?_)
        · replace k := k.1 q
          have c20 := k.1
          replace k := k.2
          refine wp_iinc 5 [1, 2, 3, 4, 5, 0] (ls' := [(0, jR a0), (1, jI a1), (2, jI a2), (3, jI a3), (4, jI a4), (5, jI (a5 + 1))]) dX11_value_261 rfl c20 ⟨by decide, by decide⟩ (by decide) rfl ?_
          refine wp_goto 32 dX11_value_264 rfl ?_
          exact k
        · replace k := k.2 q
          refine wp_iconst dX11_value_259 ⟨by decide, by decide⟩ ?_
          exact wp_zreturn dX11_value_260 rfl (by decide) (by decide) k
      · replace k := k.2 q
        exact k
theorem bX11_value_111 {d : Nat} {h : jH} {Q : jO → jH → Prop} {a0 : Nat} {a1 : Int} {a2 : Int} {a3 : Int} {a4 : Int} {a5 : Int} {a6 : Int} (k : jOK h → j32 a1 → j32 a2 → j32 a3 → j32 a4 → j32 a5 → j32 a6 → hK h a0 = 9 ∧ jCall d mX11_ended [jR a0] h (fun o h112 => ∃ v112, o = .inl (some (jI v112)) ∧ ((v112 = 0 → hK h112 a0 = 9 ∧ jCall d mX11_next [jR a0] h112 (fun o h129 => ∃ v129, o = .inl (some (jI v129)) ∧ hK h129 a0 = 9 ∧ hK h129 (hR h129 807 a0) = 10 ∧ 0 ≤ a5 ∧ a5 < hN h129 (hR h129 807 a0) ∧ (j32 (hA h129 (hR h129 807 a0) a5) → (((hA h129 (hR h129 807 a0) a5) ≠ 2 → ((v129 < 0 → jWp (d + 1) mX11_value 183 [(0, jR a0), (1, jI a1), (2, jI a2), (3, jI a3), (4, jI a4), (5, jI a5), (6, jI a6), (7, jI v129)] [] h129 Q) ∧ (¬ (v129 < 0) → jCall d mX11_isDigit [jI v129] h129 (fun o h173 => ∃ v173, o = .inl (some (jI v173)) ∧ ((v173 = 0 → jWp (d + 1) mX11_value 183 [(0, jR a0), (1, jI a1), (2, jI a2), (3, jI a3), (4, jI a4), (5, jI a5), (6, jI a6), (7, jI v129)] [] h173 Q) ∧ (¬ (v173 = 0) → jWp (d + 1) mX11_value 184 [(0, jR a0), (1, jI a1), (2, jI a2), (3, jI a3), (4, jI a4), (5, jI a5), (6, jI a6), (7, jI v129)] [jI 1] h173 Q)))))) ∧ ((hA h129 (hR h129 807 a0) a5) = 2 → ((v129 < 0 → jWp (d + 1) mX11_value 162 [(0, jR a0), (1, jI a1), (2, jI a2), (3, jI a3), (4, jI a4), (5, jI a5), (6, jI a6), (7, jI v129)] [] h129 Q) ∧ (¬ (v129 < 0) → jCall d mX11_isSign [jI v129] h129 (fun o h152 => ∃ v152, o = .inl (some (jI v152)) ∧ ((v152 = 0 → jWp (d + 1) mX11_value 162 [(0, jR a0), (1, jI a1), (2, jI a2), (3, jI a3), (4, jI a4), (5, jI a5), (6, jI a6), (7, jI v129)] [] h152 Q) ∧ (¬ (v152 = 0) → jWp (d + 1) mX11_value 184 [(0, jR a0), (1, jI a1), (2, jI a2), (3, jI a3), (4, jI a4), (5, jI a5), (6, jI a6), (7, jI v129)] [jI 1] h152 Q)))))))))) ∧ (¬ (v112 = 0) → hK h112 a0 = 9 ∧ (j32 (hI h112 825 a0) → jCall d mX11_fault [jR a0, jI 3, jI (hI h112 825 a0)] h112 (fun o h124 => ∃ v124, o = .inl (some (jI v124)) ∧ (0 ≤ v124 ∧ v124 ≤ 1) ∧ Q (.inl (some (jI v124))) h124)))))) : jWp (d + 1) mX11_value 111 [(0, jR a0), (1, jI a1), (2, jI a2), (3, jI a3), (4, jI a4), (5, jI a5), (6, jI a6)] [] h Q := by
  refine jw_ok (fun ok q => ?_)
  replace k := k ok (q _ (.tail _ (.head _))) (q _ (.tail _ (.tail _ (.head _)))) (q _ (.tail _ (.tail _ (.tail _ (.head _))))) (q _ (.tail _ (.tail _ (.tail _ (.tail _ (.head _)))))) (q _ (.tail _ (.tail _ (.tail _ (.tail _ (.tail _ (.head _))))))) (q _ (.tail _ (.tail _ (.tail _ (.tail _ (.tail _ (.tail _ (.head _))))))))
  refine wp_aload_n 0 dX11_value_111 rfl ?_
  have c1 := k.1
  replace k := k.2
  refine wp_callV (ci := 8) (y' := mX11_ended) (st := []) [] rfl rfl rfl fX11_ended kX11_321 nX11_ended dX11_value_112 (Nat.le_of_ble_eq_true rfl) c1 ?_
  refine jCall.mono k (fun o h112 k => ?_)
  obtain ⟨v112, e, k⟩ := k
  subst e
  show jWp (d + 1) mX11_value 115 [(0, jR a0), (1, jI a1), (2, jI a2), (3, jI a3), (4, jI a4), (5, jI a5), (6, jI a6)] [jI v112] h112 Q
  refine wp_if_eq 128 dX11_value_115 rfl (fun q => ?_) (fun q => ?_)
  · replace k := k.1 q
    refine wp_aload_n 0 dX11_value_128 rfl ?_
    have c2 := k.1
    replace k := k.2
    refine wp_callV (ci := 8) (y' := mX11_next) (st := []) [] rfl rfl rfl fX11_next kX11_325 nX11_next dX11_value_129 (Nat.le_of_ble_eq_true rfl) c2 ?_
    refine jCall.mono k (fun o h129 k => ?_)
    obtain ⟨v129, e, k⟩ := k
    subst e
    show jWp (d + 1) mX11_value 132 [(0, jR a0), (1, jI a1), (2, jI a2), (3, jI a3), (4, jI a4), (5, jI a5), (6, jI a6)] [jI v129] h129 Q
    refine wp_istore [1, 2, 3, 4, 5, 6, 7, 0] (ls' := [(0, jR a0), (1, jI a1), (2, jI a2), (3, jI a3), (4, jI a4), (5, jI a5), (6, jI a6), (7, jI v129)]) dX11_value_132 (by decide) rfl ?_
    refine wp_aload_n 0 dX11_value_134 rfl ?_
    have c3 := k.1
    replace k := k.2
    refine wp_getR (ci := 8) (j := 7) rfl (by decide) gX11_32 dX11_value_135 c3 rfl ?_
    refine wp_iload 5 dX11_value_138 rfl ?_
    have c4 := k.1
    replace k := k.2
    have c5 := k.1
    replace k := k.2
    have c6 := k.1
    replace k := k.2
    refine wp_iaload dX11_value_140 c4 c5 c6 (fun q => ?_)
    have f7 := q
    replace k := k q
    refine wp_iconst dX11_value_141 ⟨by decide, by decide⟩ ?_
    refine wp_icmp_ne 166 dX11_value_142 rfl (fun q => ?_) (fun q => ?_)
    · replace k := k.1 q
      refine wp_iload 7 dX11_value_166 rfl ?_
      refine wp_if_lt 183 dX11_value_168 rfl (fun q => ?_) (fun q => ?_)
      · replace k := k.1 q
        exact k
      · replace k := k.2 q
        refine wp_iload 7 dX11_value_171 rfl ?_
        refine wp_callS (y' := mX11_isDigit) (st := []) [jI v129] rfl fX11_isDigit kX11_332 nX11_isDigit dX11_value_173 (Nat.le_of_ble_eq_true rfl) ?_
        refine jCall.mono k (fun o h173 k => ?_)
        obtain ⟨v173, e, k⟩ := k
        subst e
        show jWp (d + 1) mX11_value 176 [(0, jR a0), (1, jI a1), (2, jI a2), (3, jI a3), (4, jI a4), (5, jI a5), (6, jI a6), (7, jI v129)] [jI v173] h173 Q
        refine wp_if_eq 183 dX11_value_176 rfl (fun q => ?_) (fun q => ?_)
        · replace k := k.1 q
          exact k
        · replace k := k.2 q
          refine wp_iconst dX11_value_179 ⟨by decide, by decide⟩ ?_
          refine wp_goto 184 dX11_value_180 rfl ?_
          exact k
    · replace k := k.2 q
      refine wp_iload 7 dX11_value_145 rfl ?_
      refine wp_if_lt 162 dX11_value_147 rfl (fun q => ?_) (fun q => ?_)
      · replace k := k.1 q
        exact k
      · replace k := k.2 q
        refine wp_iload 7 dX11_value_150 rfl ?_
        refine wp_callS (y' := mX11_isSign) (st := []) [jI v129] rfl fX11_isSign kX11_329 nX11_isSign dX11_value_152 (Nat.le_of_ble_eq_true rfl) ?_
        refine jCall.mono k (fun o h152 k => ?_)
        obtain ⟨v152, e, k⟩ := k
        subst e
        show jWp (d + 1) mX11_value 155 [(0, jR a0), (1, jI a1), (2, jI a2), (3, jI a3), (4, jI a4), (5, jI a5), (6, jI a6), (7, jI v129)] [jI v152] h152 Q
        refine wp_if_eq 162 dX11_value_155 rfl (fun q => ?_) (fun q => ?_)
        · replace k := k.1 q
          exact k
        · replace k := k.2 q
          refine wp_iconst dX11_value_158 ⟨by decide, by decide⟩ ?_
          refine wp_goto 184 dX11_value_159 rfl ?_
          exact k
  · replace k := k.2 q
    refine wp_aload_n 0 dX11_value_118 rfl ?_
    refine wp_iconst dX11_value_119 ⟨by decide, by decide⟩ ?_
    refine wp_aload_n 0 dX11_value_120 rfl ?_
    have c8 := k.1
    replace k := k.2
    refine wp_getI (ci := 8) (j := 25) rfl (by decide) gX11_88 dX11_value_121 c8 rfl (fun q => ?_)
    have f9 := q
    replace k := k q
    refine wp_callV (ci := 8) (y' := mX11_fault) (st := []) [jI 3, jI (hI h112 825 a0)] rfl rfl rfl fX11_fault kX11_304 nX11_fault dX11_value_124 (Nat.le_of_ble_eq_true rfl) c8 ?_
    refine jCall.mono k (fun o h124 k => ?_)
    obtain ⟨v124, e, k⟩ := k
    subst e
    show jWp (d + 1) mX11_value 127 [(0, jR a0), (1, jI a1), (2, jI a2), (3, jI a3), (4, jI a4), (5, jI a5), (6, jI a6)] [jI v124] h124 Q
    have c10 := k.1
    replace k := k.2
    exact wp_zreturn dX11_value_127 rfl c10.1 c10.2 k
theorem bX11_value_183 {d : Nat} {h : jH} {Q : jO → jH → Prop} {a0 : Nat} {a1 : Int} {a2 : Int} {a3 : Int} {a4 : Int} {a5 : Int} {a6 : Int} {a7 : Int} (k : jOK h → j32 a1 → j32 a2 → j32 a3 → j32 a4 → j32 a5 → j32 a6 → j32 a7 → jWp (d + 1) mX11_value 184 [(0, jR a0), (1, jI a1), (2, jI a2), (3, jI a3), (4, jI a4), (5, jI a5), (6, jI a6), (7, jI a7)] [jI 0] h Q) : jWp (d + 1) mX11_value 183 [(0, jR a0), (1, jI a1), (2, jI a2), (3, jI a3), (4, jI a4), (5, jI a5), (6, jI a6), (7, jI a7)] [] h Q := by
  refine jw_ok (fun ok q => ?_)
  replace k := k ok (q _ (.tail _ (.head _))) (q _ (.tail _ (.tail _ (.head _)))) (q _ (.tail _ (.tail _ (.tail _ (.head _))))) (q _ (.tail _ (.tail _ (.tail _ (.tail _ (.head _)))))) (q _ (.tail _ (.tail _ (.tail _ (.tail _ (.tail _ (.head _))))))) (q _ (.tail _ (.tail _ (.tail _ (.tail _ (.tail _ (.tail _ (.head _)))))))) (q _ (.tail _ (.tail _ (.tail _ (.tail _ (.tail _ (.tail _ (.tail _ (.head _)))))))))
  refine wp_iconst dX11_value_183 ⟨by decide, by decide⟩ ?_
  exact k
theorem bX11_value_184 {d : Nat} {h : jH} {Q : jO → jH → Prop} {a0 : Nat} {a1 : Int} {a2 : Int} {a3 : Int} {a4 : Int} {a5 : Int} {a6 : Int} {a7 : Int} {s0 : Int} (k : jOK h → j32 a1 → j32 a2 → j32 a3 → j32 a4 → j32 a5 → j32 a6 → j32 a7 → ((s0 ≠ 0 → hK h a0 = 9 ∧ (j32 (hI h 825 a0) → hK h (hR h 827 a0) = 10 ∧ 0 ≤ a4 ∧ a4 < hN h (hR h 827 a0) ∧ j32 (90 * a1) ∧ j32 ((90 * a1) + a4) ∧ hK h (hR h 817 a0) = 11 ∧ 0 ≤ ((90 * a1) + a4) ∧ ((90 * a1) + a4) < hN h (hR h 817 a0) ∧ j32 (a4 + 1) ∧ jCall d mX11_pass [jR a0] (sA (sA h (hR h 827 a0) a4 (hI h 825 a0)) (hR h 817 a0) ((90 * a1) + a4) ((a7 + 128) % 256 - 128)) (fun o h231 => o = .inl none ∧ jWp (d + 1) mX11_value 74 [(0, jR a0), (1, jI a1), (2, jI a2), (3, jI a3), (4, jI (a4 + 1)), (5, jI a5), (6, jI a6)] [] h231 Q))) ∧ (s0 = 0 → hK h a0 = 9 ∧ (j32 (hI h 825 a0) → jCall d mX11_fault [jR a0, jI 4, jI (hI h 825 a0)] h (fun o h197 => ∃ v197, o = .inl (some (jI v197)) ∧ (0 ≤ v197 ∧ v197 ≤ 1) ∧ Q (.inl (some (jI v197))) h197))))) : jWp (d + 1) mX11_value 184 [(0, jR a0), (1, jI a1), (2, jI a2), (3, jI a3), (4, jI a4), (5, jI a5), (6, jI a6), (7, jI a7)] [jI s0] h Q := by
  refine jw_ok (fun ok q => ?_)
  replace k := k ok (q _ (.tail _ (.head _))) (q _ (.tail _ (.tail _ (.head _)))) (q _ (.tail _ (.tail _ (.tail _ (.head _))))) (q _ (.tail _ (.tail _ (.tail _ (.tail _ (.head _)))))) (q _ (.tail _ (.tail _ (.tail _ (.tail _ (.tail _ (.head _))))))) (q _ (.tail _ (.tail _ (.tail _ (.tail _ (.tail _ (.tail _ (.head _)))))))) (q _ (.tail _ (.tail _ (.tail _ (.tail _ (.tail _ (.tail _ (.tail _ (.head _)))))))))
  refine wp_istore [1, 2, 3, 4, 5, 6, 7, 8, 0] (ls' := [(0, jR a0), (1, jI a1), (2, jI a2), (3, jI a3), (4, jI a4), (5, jI a5), (6, jI a6), (7, jI a7), (8, jI s0)]) dX11_value_184 (by decide) rfl ?_
  refine wp_iload 8 dX11_value_186 rfl ?_
  refine wp_if_ne 201 dX11_value_188 rfl (fun q => ?_) (fun q => ?_)
  · replace k := k.1 q
    refine wp_aload_n 0 dX11_value_201 rfl ?_
    have c1 := k.1
    replace k := k.2
    refine wp_getR (ci := 8) (j := 27) rfl (by decide) gX11_95 dX11_value_202 c1 rfl ?_
    refine wp_iload 4 dX11_value_205 rfl ?_
    refine wp_aload_n 0 dX11_value_207 rfl ?_
    refine wp_getI (ci := 8) (j := 25) rfl (by decide) gX11_88 dX11_value_208 c1 rfl (fun q => ?_)
    have f2 := q
    replace k := k q
    have c3 := k.1
    replace k := k.2
    have c4 := k.1
    replace k := k.2
    have c5 := k.1
    replace k := k.2
    refine wp_iastore dX11_value_211 c3 c4 c5 ?_
    refine wp_aload_n 0 dX11_value_212 rfl ?_
    refine wp_getR (ci := 8) (j := 17) rfl (by decide) gX11_63 dX11_value_213 c1 rfl ?_
    refine wp_bipush dX11_value_216 ⟨by decide, by decide⟩ ?_
    refine wp_iload_n 1 dX11_value_218 rfl ?_
    have c6 := k.1
    replace k := k.2
    refine wp_imul dX11_value_219 c6 ?_
    refine wp_iload 4 dX11_value_220 rfl ?_
    have c7 := k.1
    replace k := k.2
    refine wp_iadd dX11_value_222 c7 ?_
    refine wp_iload 7 dX11_value_223 rfl ?_
    refine wp_i2b dX11_value_225 ?_
    have c8 := k.1
    replace k := k.2
    have c9 := k.1
    replace k := k.2
    have c10 := k.1
    replace k := k.2
    refine wp_bastore dX11_value_226 c8 c9 c10 ⟨by omega, by omega⟩ ?_
    have c11 := k.1
    replace k := k.2
    refine wp_iinc 4 [1, 2, 3, 4, 0, 5, 6] (ls' := [(0, jR a0), (1, jI a1), (2, jI a2), (3, jI a3), (4, jI (a4 + 1)), (5, jI a5), (6, jI a6)]) dX11_value_227 rfl c11 ⟨by decide, by decide⟩ (by decide) rfl ?_
    refine wp_aload_n 0 dX11_value_230 rfl ?_
    refine wp_callV (ci := 8) (y' := mX11_pass) (st := []) [] rfl rfl rfl fX11_pass kX11_335 nX11_pass dX11_value_231 (Nat.le_of_ble_eq_true rfl) c1 ?_
    refine jCall.mono k (fun o h231 k => ?_)
    obtain ⟨e, k⟩ := k
    subst e
    show jWp (d + 1) mX11_value 234 [(0, jR a0), (1, jI a1), (2, jI a2), (3, jI a3), (4, jI (a4 + 1)), (5, jI a5), (6, jI a6)] [] h231 Q
    refine wp_goto 74 dX11_value_234 rfl ?_
    exact k
  · replace k := k.2 q
    refine wp_aload_n 0 dX11_value_191 rfl ?_
    refine wp_iconst dX11_value_192 ⟨by decide, by decide⟩ ?_
    refine wp_aload_n 0 dX11_value_193 rfl ?_
    have c12 := k.1
    replace k := k.2
    refine wp_getI (ci := 8) (j := 25) rfl (by decide) gX11_88 dX11_value_194 c12 rfl (fun q => ?_)
    have f13 := q
    replace k := k q
    refine wp_callV (ci := 8) (y' := mX11_fault) (st := []) [jI 4, jI (hI h 825 a0)] rfl rfl rfl fX11_fault kX11_304 nX11_fault dX11_value_197 (Nat.le_of_ble_eq_true rfl) c12 ?_
    refine jCall.mono k (fun o h197 k => ?_)
    obtain ⟨v197, e, k⟩ := k
    subst e
    show jWp (d + 1) mX11_value 200 [(0, jR a0), (1, jI a1), (2, jI a2), (3, jI a3), (4, jI a4), (5, jI a5), (6, jI a6), (7, jI a7), (8, jI s0)] [jI v197] h197 Q
    have c14 := k.1
    replace k := k.2
    exact wp_zreturn dX11_value_200 rfl c14.1 c14.2 k
theorem bX11_value_162 {d : Nat} {h : jH} {Q : jO → jH → Prop} {a0 : Nat} {a1 : Int} {a2 : Int} {a3 : Int} {a4 : Int} {a5 : Int} {a6 : Int} {a7 : Int} (k : jOK h → j32 a1 → j32 a2 → j32 a3 → j32 a4 → j32 a5 → j32 a6 → j32 a7 → jWp (d + 1) mX11_value 184 [(0, jR a0), (1, jI a1), (2, jI a2), (3, jI a3), (4, jI a4), (5, jI a5), (6, jI a6), (7, jI a7)] [jI 0] h Q) : jWp (d + 1) mX11_value 162 [(0, jR a0), (1, jI a1), (2, jI a2), (3, jI a3), (4, jI a4), (5, jI a5), (6, jI a6), (7, jI a7)] [] h Q := by
  refine jw_ok (fun ok q => ?_)
  replace k := k ok (q _ (.tail _ (.head _))) (q _ (.tail _ (.tail _ (.head _)))) (q _ (.tail _ (.tail _ (.tail _ (.head _))))) (q _ (.tail _ (.tail _ (.tail _ (.tail _ (.head _)))))) (q _ (.tail _ (.tail _ (.tail _ (.tail _ (.tail _ (.head _))))))) (q _ (.tail _ (.tail _ (.tail _ (.tail _ (.tail _ (.tail _ (.head _)))))))) (q _ (.tail _ (.tail _ (.tail _ (.tail _ (.tail _ (.tail _ (.tail _ (.head _)))))))))
  refine wp_iconst dX11_value_162 ⟨by decide, by decide⟩ ?_
  refine wp_goto 184 dX11_value_163 rfl ?_
  exact k
theorem bX11_aiHere {d : Nat} {h : jH} {Q : jO → jH → Prop} {a0 : Nat} (k : jOK h → jWp (d + 1) mX11_aiHere 4 [(0, jR a0), (1, jI 0), (2, jI 1)] [] h Q) : jCall (d + 1) mX11_aiHere [jR a0] h Q := by
  refine jCall_of plX11 (Nat.le_of_ble_eq_true rfl) ?_
  show jWp (d + 1) mX11_aiHere 0 [(0, jR a0)] [] h Q
  refine jw_ok (fun ok q => ?_)
  replace k := k ok 
  refine wp_iconst dX11_aiHere_0 ⟨by decide, by decide⟩ ?_
  refine wp_istore_n [1, 0] (ls' := [(0, jR a0), (1, jI 0)]) dX11_aiHere_1 (by decide) rfl ?_
  refine wp_iconst dX11_aiHere_2 ⟨by decide, by decide⟩ ?_
  refine wp_istore_n [1, 2, 0] (ls' := [(0, jR a0), (1, jI 0), (2, jI 1)]) dX11_aiHere_3 (by decide) rfl ?_
  exact k
theorem bX11_aiHere_4 {d : Nat} {h : jH} {Q : jO → jH → Prop} {a0 : Nat} {a1 : Int} {a2 : Int} (k : jOK h → j32 a1 → j32 a2 → ((4 < a2 → Q (.inl (some (jI (-1)))) h) ∧ (¬ (4 < a2) → hK h a0 = 9 ∧ (j32 (hI h 825 a0) → j32 ((hI h 825 a0) + a2) ∧ (j32 (hI h 821 a0) → (((hI h 821 a0) < ((hI h 825 a0) + a2) → Q (.inl (some (jI (-1)))) h) ∧ (¬ ((hI h 821 a0) < ((hI h 825 a0) + a2)) → j32 (((hI h 825 a0) + a2) - 1) ∧ jCall d mX11_here [jR a0, jI (((hI h 825 a0) + a2) - 1)] h (fun o h31 => ∃ v31, o = .inl (some (jI v31)) ∧ jCall d mX11_isDigit [jI v31] h31 (fun o h34 => ∃ v34, o = .inl (some (jI v34)) ∧ ((v34 = 0 → Q (.inl (some (jI (-1)))) h34) ∧ (¬ (v34 = 0) → j32 (10 * a1) ∧ hK h34 a0 = 9 ∧ (j32 (hI h34 825 a0) → j32 ((hI h34 825 a0) + a2) ∧ j32 (((hI h34 825 a0) + a2) - 1) ∧ jCall d mX11_here [jR a0, jI (((hI h34 825 a0) + a2) - 1)] h34 (fun o h53 => ∃ v53, o = .inl (some (jI v53)) ∧ j32 ((10 * a1) + v53) ∧ j32 (((10 * a1) + v53) - 48) ∧ ((a2 ≤ 1 → j32 (a2 + 1) ∧ jWp (d + 1) mX11_aiHere 4 [(0, jR a0), (1, jI (((10 * a1) + v53) - 48)), (2, jI (a2 + 1))] [] h53 Q) ∧ (¬ (a2 ≤ 1) → hK h53 a0 = 9 ∧ jCall d mX11_aiOf [jR a0, jI (((10 * a1) + v53) - 48), jI a2] h53 (fun o h69 => ∃ v69, o = .inl (some (jI v69)) ∧ ((v69 < 0 → j32 (a2 + 1) ∧ jWp (d + 1) mX11_aiHere 4 [(0, jR a0), (1, jI (((10 * a1) + v53) - 48)), (2, jI (a2 + 1))] [] h69 Q) ∧ (¬ (v69 < 0) → Q (.inl (some (jI v69))) h69)))))))))))))))))) : jWp (d + 1) mX11_aiHere 4 [(0, jR a0), (1, jI a1), (2, jI a2)] [] h Q := by
  refine jw_ok (fun ok q => ?_)
  replace k := k ok (q _ (.tail _ (.head _))) (q _ (.tail _ (.tail _ (.head _))))
  refine wp_iload_n 2 dX11_aiHere_4 rfl ?_
  refine wp_iconst dX11_aiHere_5 ⟨by decide, by decide⟩ ?_
  refine wp_icmp_gt 89 dX11_aiHere_6 rfl (fun q => ?_) (fun q => ?_)
  · replace k := k.1 q
    refine wp_iconst dX11_aiHere_89 ⟨by decide, by decide⟩ ?_
    exact wp_iret dX11_aiHere_90 rfl k
  · replace k := k.2 q
    refine wp_aload_n 0 dX11_aiHere_9 rfl ?_
    have c1 := k.1
    replace k := k.2
    refine wp_getI (ci := 8) (j := 25) rfl (by decide) gX11_88 dX11_aiHere_10 c1 rfl (fun q => ?_)
    have f2 := q
    replace k := k q
    refine wp_iload_n 2 dX11_aiHere_13 rfl ?_
    have c3 := k.1
    replace k := k.2
    refine wp_iadd dX11_aiHere_14 c3 ?_
    refine wp_aload_n 0 dX11_aiHere_15 rfl ?_
    refine wp_getI (ci := 8) (j := 21) rfl (by decide) gX11_76 dX11_aiHere_16 c1 rfl (fun q => ?_)
    have f4 := q
    replace k := k q
    refine wp_icmp_gt 89 dX11_aiHere_19 rfl (fun q => ?_) (fun q => ?_)
    · replace k := k.1 q
      refine wp_iconst dX11_aiHere_89 ⟨by decide, by decide⟩ ?_
      exact wp_iret dX11_aiHere_90 rfl k
    · replace k := k.2 q
      refine wp_aload_n 0 dX11_aiHere_22 rfl ?_
      refine wp_aload_n 0 dX11_aiHere_23 rfl ?_
      refine wp_getI (ci := 8) (j := 25) rfl (by decide) gX11_88 dX11_aiHere_24 c1 rfl (fun q => ?_)
      refine wp_iload_n 2 dX11_aiHere_27 rfl ?_
      refine wp_iadd dX11_aiHere_28 c3 ?_
      refine wp_iconst dX11_aiHere_29 ⟨by decide, by decide⟩ ?_
      have c5 := k.1
      replace k := k.2
      refine wp_isub dX11_aiHere_30 c5 ?_
      refine wp_callV (ci := 8) (y' := mX11_here) (st := []) [jI (((hI h 825 a0) + a2) - 1)] rfl rfl rfl fX11_here kX11_296 nX11_here dX11_aiHere_31 (Nat.le_of_ble_eq_true rfl) c1 ?_
      refine jCall.mono k (fun o h31 k => ?_)
      obtain ⟨v31, e, k⟩ := k
      subst e
      show jWp (d + 1) mX11_aiHere 34 [(0, jR a0), (1, jI a1), (2, jI a2)] [jI v31] h31 Q
      refine wp_callS (y' := mX11_isDigit) (st := []) [jI v31] rfl fX11_isDigit kX11_332 nX11_isDigit dX11_aiHere_34 (Nat.le_of_ble_eq_true rfl) ?_
      refine jCall.mono k (fun o h34 k => ?_)
      obtain ⟨v34, e, k⟩ := k
      subst e
      show jWp (d + 1) mX11_aiHere 37 [(0, jR a0), (1, jI a1), (2, jI a2)] [jI v34] h34 Q
      refine wp_if_eq 89 dX11_aiHere_37 rfl (fun q => ?_) (fun q => ?_)
      · replace k := k.1 q
        refine wp_iconst dX11_aiHere_89 ⟨by decide, by decide⟩ ?_
        exact wp_iret dX11_aiHere_90 rfl k
      · replace k := k.2 q
        refine wp_bipush dX11_aiHere_40 ⟨by decide, by decide⟩ ?_
        refine wp_iload_n 1 dX11_aiHere_42 rfl ?_
        have c6 := k.1
        replace k := k.2
        refine wp_imul dX11_aiHere_43 c6 ?_
        refine wp_aload_n 0 dX11_aiHere_44 rfl ?_
        refine wp_aload_n 0 dX11_aiHere_45 rfl ?_
        have c7 := k.1
        replace k := k.2
        refine wp_getI (ci := 8) (j := 25) rfl (by decide) gX11_88 dX11_aiHere_46 c7 rfl (fun q => ?_)
        have f8 := q
        replace k := k q
        refine wp_iload_n 2 dX11_aiHere_49 rfl ?_
        have c9 := k.1
        replace k := k.2
        refine wp_iadd dX11_aiHere_50 c9 ?_
        refine wp_iconst dX11_aiHere_51 ⟨by decide, by decide⟩ ?_
        have c10 := k.1
        replace k := k.2
        refine wp_isub dX11_aiHere_52 c10 ?_
        refine wp_callV (ci := 8) (y' := mX11_here) (st := [jI (10 * a1)]) [jI (((hI h34 825 a0) + a2) - 1)] rfl rfl rfl fX11_here kX11_296 nX11_here dX11_aiHere_53 (Nat.le_of_ble_eq_true rfl) c7 ?_
        refine jCall.mono k (fun o h53 k => ?_)
        obtain ⟨v53, e, k⟩ := k
        subst e
        show jWp (d + 1) mX11_aiHere 56 [(0, jR a0), (1, jI a1), (2, jI a2)] [jI v53, jI (10 * a1)] h53 Q
        have c11 := k.1
        replace k := k.2
        refine wp_iadd dX11_aiHere_56 c11 ?_
        refine wp_bipush dX11_aiHere_57 ⟨by decide, by decide⟩ ?_
        have c12 := k.1
        replace k := k.2
        refine wp_isub dX11_aiHere_59 c12 ?_
        refine wp_istore_n [1, 0, 2] (ls' := [(0, jR a0), (1, jI (((10 * a1) + v53) - 48)), (2, jI a2)]) dX11_aiHere_60 (by decide) rfl ?_
        refine wp_iload_n 2 dX11_aiHere_61 rfl ?_
        refine wp_iconst dX11_aiHere_62 ⟨by decide, by decide⟩ ?_
        refine wp_icmp_le 75 dX11_aiHere_63 rfl (fun q => ?_) (fun q => ?_)
        · replace k := k.1 q
          refine wp_iconst dX11_aiHere_75 ⟨by decide, by decide⟩ ?_
          refine wp_istore_n [1, 2, 3, 0] (ls' := [(0, jR a0), (1, jI (((10 * a1) + v53) - 48)), (2, jI a2), (3, jI (-1))]) dX11_aiHere_76 (by decide) rfl ?_
          refine wp_iload_n 3 dX11_aiHere_77 rfl ?_
          refine wp_if_lt 83 dX11_aiHere_78 rfl (fun q => ?_) (fun q => absurd q (by decide))
          have c13 := k.1
          replace k := k.2
          refine wp_iinc 2 [1, 2, 0] (ls' := [(0, jR a0), (1, jI (((10 * a1) + v53) - 48)), (2, jI (a2 + 1))]) dX11_aiHere_83 rfl c13 ⟨by decide, by decide⟩ (by decide) rfl ?_
          refine wp_goto 4 dX11_aiHere_86 rfl ?_
          exact k
        · replace k := k.2 q
          refine wp_aload_n 0 dX11_aiHere_66 rfl ?_
          refine wp_iload_n 1 dX11_aiHere_67 rfl ?_
          refine wp_iload_n 2 dX11_aiHere_68 rfl ?_
          have c14 := k.1
          replace k := k.2
          refine wp_callV (ci := 8) (y' := mX11_aiOf) (st := []) [jI (((10 * a1) + v53) - 48), jI a2] rfl rfl rfl fX11_aiOf kX11_342 nX11_aiOf dX11_aiHere_69 (Nat.le_of_ble_eq_true rfl) c14 ?_
          refine jCall.mono k (fun o h69 k => ?_)
          obtain ⟨v69, e, k⟩ := k
          subst e
          show jWp (d + 1) mX11_aiHere 72 [(0, jR a0), (1, jI (((10 * a1) + v53) - 48)), (2, jI a2)] [jI v69] h69 Q
          refine wp_goto 76 dX11_aiHere_72 rfl ?_
          refine wp_istore_n [1, 2, 3, 0] (ls' := [(0, jR a0), (1, jI (((10 * a1) + v53) - 48)), (2, jI a2), (3, jI v69)]) dX11_aiHere_76 (by decide) rfl ?_
          refine wp_iload_n 3 dX11_aiHere_77 rfl ?_
          refine wp_if_lt 83 dX11_aiHere_78 rfl (fun q => ?_) (fun q => ?_)
          · replace k := k.1 q
            have c15 := k.1
            replace k := k.2
            refine wp_iinc 2 [1, 2, 0] (ls' := [(0, jR a0), (1, jI (((10 * a1) + v53) - 48)), (2, jI (a2 + 1))]) dX11_aiHere_83 rfl c15 ⟨by decide, by decide⟩ (by decide) rfl ?_
            refine wp_goto 4 dX11_aiHere_86 rfl ?_
            exact k
          · replace k := k.2 q
            refine wp_iload_n 3 dX11_aiHere_81 rfl ?_
            exact wp_iret dX11_aiHere_82 rfl k
theorem bX11_aiTo {d : Nat} {h : jH} {Q : jO → jH → Prop} {a0 : Nat} {a1 : Int} (k : jOK h → j32 a1 → hK h a0 = 9 ∧ (j32 (hI h 825 a0) → j32 (a1 - (hI h 825 a0)) ∧ (((a1 - (hI h 825 a0)) < 2 → Q (.inl (some (jI (-1)))) h) ∧ (¬ ((a1 - (hI h 825 a0)) < 2) → (((a1 - (hI h 825 a0)) ≤ 4 → jWp (d + 1) mX11_aiTo 27 [(0, jR a0), (1, jI a1), (2, jI (a1 - (hI h 825 a0))), (3, jI 0), (4, jI (hI h 825 a0))] [] h Q) ∧ (¬ ((a1 - (hI h 825 a0)) ≤ 4) → Q (.inl (some (jI (-1)))) h)))))) : jCall (d + 1) mX11_aiTo [jR a0, jI a1] h Q := by
  refine jCall_of plX11 (Nat.le_of_ble_eq_true rfl) ?_
  show jWp (d + 1) mX11_aiTo 0 [(0, jR a0), (1, jI a1)] [] h Q
  refine jw_ok (fun ok q => ?_)
  replace k := k ok (q _ (.tail _ (.head _)))
  refine wp_iload_n 1 dX11_aiTo_0 rfl ?_
  refine wp_aload_n 0 dX11_aiTo_1 rfl ?_
  have c1 := k.1
  replace k := k.2
  refine wp_getI (ci := 8) (j := 25) rfl (by decide) gX11_88 dX11_aiTo_2 c1 rfl (fun q => ?_)
  have f2 := q
  replace k := k q
  have c3 := k.1
  replace k := k.2
  refine wp_isub dX11_aiTo_5 c3 ?_
  refine wp_istore_n [1, 2, 0] (ls' := [(0, jR a0), (1, jI a1), (2, jI (a1 - (hI h 825 a0)))]) dX11_aiTo_6 (by decide) rfl ?_
  refine wp_iload_n 2 dX11_aiTo_7 rfl ?_
  refine wp_iconst dX11_aiTo_8 ⟨by decide, by decide⟩ ?_
  refine wp_icmp_lt 17 dX11_aiTo_9 rfl (fun q => ?_) (fun q => ?_)
  · replace k := k.1 q
    refine wp_iconst dX11_aiTo_17 ⟨by decide, by decide⟩ ?_
    exact wp_iret dX11_aiTo_18 rfl k
  · replace k := k.2 q
    refine wp_iload_n 2 dX11_aiTo_12 rfl ?_
    refine wp_iconst dX11_aiTo_13 ⟨by decide, by decide⟩ ?_
    refine wp_icmp_le 19 dX11_aiTo_14 rfl (fun q => ?_) (fun q => ?_)
    · replace k := k.1 q
      refine wp_iconst dX11_aiTo_19 ⟨by decide, by decide⟩ ?_
      refine wp_istore_n [1, 2, 3, 0] (ls' := [(0, jR a0), (1, jI a1), (2, jI (a1 - (hI h 825 a0))), (3, jI 0)]) dX11_aiTo_20 (by decide) rfl ?_
      refine wp_aload_n 0 dX11_aiTo_21 rfl ?_
      refine wp_getI (ci := 8) (j := 25) rfl (by decide) gX11_88 dX11_aiTo_22 c1 rfl (fun q => ?_)
      refine wp_istore [1, 2, 3, 4, 0] (ls' := [(0, jR a0), (1, jI a1), (2, jI (a1 - (hI h 825 a0))), (3, jI 0), (4, jI (hI h 825 a0))]) dX11_aiTo_25 (by decide) rfl ?_
      exact k
    · replace k := k.2 q
      refine wp_iconst dX11_aiTo_17 ⟨by decide, by decide⟩ ?_
      exact wp_iret dX11_aiTo_18 rfl k
theorem bX11_aiTo_27 {d : Nat} {h : jH} {Q : jO → jH → Prop} {a0 : Nat} {a1 : Int} {a2 : Int} {a3 : Int} {a4 : Int} (k : jOK h → j32 a1 → j32 a2 → j32 a3 → j32 a4 → ((a1 ≤ a4 → hK h a0 = 9 ∧ jCall d mX11_aiOf [jR a0, jI a3, jI a2] h (fun o h71 => ∃ v71, o = .inl (some (jI v71)) ∧ Q (.inl (some (jI v71))) h71)) ∧ (¬ (a1 ≤ a4) → hK h a0 = 9 ∧ jCall d mX11_here [jR a0, jI a4] h (fun o h36 => ∃ v36, o = .inl (some (jI v36)) ∧ jCall d mX11_isDigit [jI v36] h36 (fun o h39 => ∃ v39, o = .inl (some (jI v39)) ∧ ((v39 ≠ 0 → j32 (10 * a3) ∧ hK h39 a0 = 9 ∧ jCall d mX11_here [jR a0, jI a4] h39 (fun o h54 => ∃ v54, o = .inl (some (jI v54)) ∧ j32 ((10 * a3) + v54) ∧ j32 (((10 * a3) + v54) - 48) ∧ j32 (a4 + 1) ∧ jWp (d + 1) mX11_aiTo 27 [(0, jR a0), (1, jI a1), (2, jI a2), (3, jI (((10 * a3) + v54) - 48)), (4, jI (a4 + 1))] [] h54 Q)) ∧ (v39 = 0 → Q (.inl (some (jI (-1)))) h39))))))) : jWp (d + 1) mX11_aiTo 27 [(0, jR a0), (1, jI a1), (2, jI a2), (3, jI a3), (4, jI a4)] [] h Q := by
  refine jw_ok (fun ok q => ?_)
  replace k := k ok (q _ (.tail _ (.head _))) (q _ (.tail _ (.tail _ (.head _)))) (q _ (.tail _ (.tail _ (.tail _ (.head _))))) (q _ (.tail _ (.tail _ (.tail _ (.tail _ (.head _))))))
  refine wp_iload 4 dX11_aiTo_27 rfl ?_
  refine wp_iload_n 1 dX11_aiTo_29 rfl ?_
  refine wp_icmp_ge 68 dX11_aiTo_30 rfl (fun q => ?_) (fun q => ?_)
  · replace k := k.1 q
    refine wp_aload_n 0 dX11_aiTo_68 rfl ?_
    refine wp_iload_n 3 dX11_aiTo_69 rfl ?_
    refine wp_iload_n 2 dX11_aiTo_70 rfl ?_
    have c1 := k.1
    replace k := k.2
    refine wp_callV (ci := 8) (y' := mX11_aiOf) (st := []) [jI a3, jI a2] rfl rfl rfl fX11_aiOf kX11_342 nX11_aiOf dX11_aiTo_71 (Nat.le_of_ble_eq_true rfl) c1 ?_
    refine jCall.mono k (fun o h71 k => ?_)
    obtain ⟨v71, e, k⟩ := k
    subst e
    show jWp (d + 1) mX11_aiTo 74 [(0, jR a0), (1, jI a1), (2, jI a2), (3, jI a3), (4, jI a4)] [jI v71] h71 Q
    exact wp_iret dX11_aiTo_74 rfl k
  · replace k := k.2 q
    refine wp_aload_n 0 dX11_aiTo_33 rfl ?_
    refine wp_iload 4 dX11_aiTo_34 rfl ?_
    have c2 := k.1
    replace k := k.2
    refine wp_callV (ci := 8) (y' := mX11_here) (st := []) [jI a4] rfl rfl rfl fX11_here kX11_296 nX11_here dX11_aiTo_36 (Nat.le_of_ble_eq_true rfl) c2 ?_
    refine jCall.mono k (fun o h36 k => ?_)
    obtain ⟨v36, e, k⟩ := k
    subst e
    show jWp (d + 1) mX11_aiTo 39 [(0, jR a0), (1, jI a1), (2, jI a2), (3, jI a3), (4, jI a4)] [jI v36] h36 Q
    refine wp_callS (y' := mX11_isDigit) (st := []) [jI v36] rfl fX11_isDigit kX11_332 nX11_isDigit dX11_aiTo_39 (Nat.le_of_ble_eq_true rfl) ?_
    refine jCall.mono k (fun o h39 k => ?_)
    obtain ⟨v39, e, k⟩ := k
    subst e
    show jWp (d + 1) mX11_aiTo 42 [(0, jR a0), (1, jI a1), (2, jI a2), (3, jI a3), (4, jI a4)] [jI v39] h39 Q
    refine wp_if_ne 47 dX11_aiTo_42 rfl (fun q => ?_) (fun q => ?_)
    · replace k := k.1 q
      refine wp_bipush dX11_aiTo_47 ⟨by decide, by decide⟩ ?_
      refine wp_iload_n 3 dX11_aiTo_49 rfl ?_
      have c3 := k.1
      replace k := k.2
      refine wp_imul dX11_aiTo_50 c3 ?_
      refine wp_aload_n 0 dX11_aiTo_51 rfl ?_
      refine wp_iload 4 dX11_aiTo_52 rfl ?_
      have c4 := k.1
      replace k := k.2
      refine wp_callV (ci := 8) (y' := mX11_here) (st := [jI (10 * a3)]) [jI a4] rfl rfl rfl fX11_here kX11_296 nX11_here dX11_aiTo_54 (Nat.le_of_ble_eq_true rfl) c4 ?_
      refine jCall.mono k (fun o h54 k => ?_)
      obtain ⟨v54, e, k⟩ := k
      subst e
      show jWp (d + 1) mX11_aiTo 57 [(0, jR a0), (1, jI a1), (2, jI a2), (3, jI a3), (4, jI a4)] [jI v54, jI (10 * a3)] h54 Q
      have c5 := k.1
      replace k := k.2
      refine wp_iadd dX11_aiTo_57 c5 ?_
      refine wp_bipush dX11_aiTo_58 ⟨by decide, by decide⟩ ?_
      have c6 := k.1
      replace k := k.2
      refine wp_isub dX11_aiTo_60 c6 ?_
      refine wp_istore_n [1, 2, 3, 0, 4] (ls' := [(0, jR a0), (1, jI a1), (2, jI a2), (3, jI (((10 * a3) + v54) - 48)), (4, jI a4)]) dX11_aiTo_61 (by decide) rfl ?_
      have c7 := k.1
      replace k := k.2
      refine wp_iinc 4 [1, 2, 3, 4, 0] (ls' := [(0, jR a0), (1, jI a1), (2, jI a2), (3, jI (((10 * a3) + v54) - 48)), (4, jI (a4 + 1))]) dX11_aiTo_62 rfl c7 ⟨by decide, by decide⟩ (by decide) rfl ?_
      refine wp_goto 27 dX11_aiTo_65 rfl ?_
      exact k
    · replace k := k.2 q
      refine wp_iconst dX11_aiTo_45 ⟨by decide, by decide⟩ ?_
      exact wp_iret dX11_aiTo_46 rfl k
theorem bX11_elements {d : Nat} {h : jH} {Q : jO → jH → Prop} {a0 : Nat} (k : jOK h → hK h a0 = 9 ∧ hK h (hR h 813 a0) = 10 ∧ 0 ≤ (9 : Int) ∧ 9 < hN h (hR h 813 a0) ∧ jWp (d + 1) mX11_elements 15 [(0, jR a0), (1, jI 1)] [] (sA (sI h 825 a0 0) (hR h 813 a0) 9 0) Q) : jCall (d + 1) mX11_elements [jR a0] h Q := by
  refine jCall_of plX11 (Nat.le_of_ble_eq_true rfl) ?_
  show jWp (d + 1) mX11_elements 0 [(0, jR a0)] [] h Q
  refine jw_ok (fun ok q => ?_)
  replace k := k ok 
  refine wp_aload_n 0 dX11_elements_0 rfl ?_
  refine wp_iconst dX11_elements_1 ⟨by decide, by decide⟩ ?_
  have c1 := k.1
  replace k := k.2
  refine wp_putI (ci := 8) (j := 25) rfl (by decide) gX11_88 dX11_elements_2 c1 (Or.inl rfl) rfl ?_
  refine wp_aload_n 0 dX11_elements_5 rfl ?_
  refine wp_getR (ci := 8) (j := 13) rfl (by decide) gX11_51 dX11_elements_6 c1 rfl ?_
  refine wp_bipush dX11_elements_9 ⟨by decide, by decide⟩ ?_
  refine wp_iconst dX11_elements_11 ⟨by decide, by decide⟩ ?_
  have c2 := k.1
  replace k := k.2
  have c3 := k.1
  replace k := k.2
  have c4 := k.1
  replace k := k.2
  refine wp_iastore dX11_elements_12 c2 c3 c4 ?_
  refine wp_iconst dX11_elements_13 ⟨by decide, by decide⟩ ?_
  refine wp_istore_n [1, 0] (ls' := [(0, jR a0), (1, jI 1)]) dX11_elements_14 (by decide) rfl ?_
  exact k
theorem bX11_elements_15 {d : Nat} {h : jH} {Q : jO → jH → Prop} {a0 : Nat} {a1 : Int} (k : jOK h → j32 a1 → ((a1 = 0 → Q (.inl (some (jI 1))) h) ∧ (¬ (a1 = 0) → hK h a0 = 9 ∧ (j32 (hI h 825 a0) → (j32 (hI h 821 a0) → (((hI h 825 a0) ≠ (hI h 821 a0) → (j32 (hI h 826 a0) → (((hI h 826 a0) = 0 → (((hI h 826 a0) = 0 → jCall d mX11_aiHere [jR a0] h (fun o h151 => ∃ v151, o = .inl (some (jI v151)) ∧ jWp (d + 1) mX11_elements 154 [(0, jR a0), (2, jI (hI h 825 a0))] [jI v151] h151 Q)) ∧ (¬ ((hI h 826 a0) = 0) → jCall d mX11_aiTo [jR a0, jI (hI h 825 a0)] h (fun o h144 => ∃ v144, o = .inl (some (jI v144)) ∧ jWp (d + 1) mX11_elements 154 [(0, jR a0), (2, jI (hI h 825 a0))] [jI v144] h144 Q)))) ∧ (¬ ((hI h 826 a0) = 0) → jCall d mX11_here [jR a0, jI (hI h 825 a0)] h (fun o h57 => ∃ v57, o = .inl (some (jI v57)) ∧ ((v57 = 40 → hK h57 a0 = 9 ∧ (j32 (hI h57 825 a0) → j32 ((hI h57 825 a0) + 1) ∧ (j32 (hI (sI h57 825 a0 ((hI h57 825 a0) + 1)) 825 a0) → (j32 (hI (sI h57 825 a0 ((hI h57 825 a0) + 1)) 821 a0) → (((hI (sI h57 825 a0 ((hI h57 825 a0) + 1)) 825 a0) ≠ (hI (sI h57 825 a0 ((hI h57 825 a0) + 1)) 821 a0) → jWp (d + 1) mX11_elements 111 [(0, jR a0), (2, jI (hI (sI h57 825 a0 ((hI h57 825 a0) + 1)) 825 a0))] [] (sI h57 825 a0 ((hI h57 825 a0) + 1)) Q) ∧ ((hI (sI h57 825 a0 ((hI h57 825 a0) + 1)) 825 a0) = (hI (sI h57 825 a0 ((hI h57 825 a0) + 1)) 821 a0) → jCall d mX11_fault [jR a0, jI 1, jI (hI (sI h57 825 a0 ((hI h57 825 a0) + 1)) 821 a0)] (sI h57 825 a0 ((hI h57 825 a0) + 1)) (fun o h102 => ∃ v102, o = .inl (some (jI v102)) ∧ (0 ≤ v102 ∧ v102 ≤ 1) ∧ Q (.inl (some (jI v102))) h102))))))) ∧ (¬ (v57 = 40) → hK h57 a0 = 9 ∧ (j32 (hI h57 825 a0) → jCall d mX11_fault [jR a0, jI 1, jI (hI h57 825 a0)] h57 (fun o h71 => ∃ v71, o = .inl (some (jI v71)) ∧ (0 ≤ v71 ∧ v71 ≤ 1) ∧ Q (.inl (some (jI v71))) h71))))))))) ∧ ((hI h 825 a0) = (hI h 821 a0) → jCall d mX11_fault [jR a0, jI 1, jI (hI h 821 a0)] h (fun o h36 => ∃ v36, o = .inl (some (jI v36)) ∧ (0 ≤ v36 ∧ v36 ≤ 1) ∧ Q (.inl (some (jI v36))) h36)))))))) : jWp (d + 1) mX11_elements 15 [(0, jR a0), (1, jI a1)] [] h Q := by
  refine jw_ok (fun ok q => ?_)
  replace k := k ok (q _ (.tail _ (.head _)))
  refine wp_iload_n 1 dX11_elements_15 rfl ?_
  refine wp_if_eq 347 dX11_elements_16 rfl (fun q => ?_) (fun q => ?_)
  · replace k := k.1 q
    refine wp_iconst dX11_elements_347 ⟨by decide, by decide⟩ ?_
    exact wp_zreturn dX11_elements_348 rfl (by decide) (by decide) k
  · replace k := k.2 q
    refine wp_aload_n 0 dX11_elements_19 rfl ?_
    have c1 := k.1
    replace k := k.2
    refine wp_getI (ci := 8) (j := 25) rfl (by decide) gX11_88 dX11_elements_20 c1 rfl (fun q => ?_)
    have f2 := q
    replace k := k q
    refine wp_aload_n 0 dX11_elements_23 rfl ?_
    refine wp_getI (ci := 8) (j := 21) rfl (by decide) gX11_76 dX11_elements_24 c1 rfl (fun q => ?_)
    have f3 := q
    replace k := k q
    refine wp_icmp_ne 40 dX11_elements_27 rfl (fun q => ?_) (fun q => ?_)
    · replace k := k.1 q
      refine wp_aload_n 0 dX11_elements_40 rfl ?_
      refine wp_getI (ci := 8) (j := 25) rfl (by decide) gX11_88 dX11_elements_41 c1 rfl (fun q => ?_)
      refine wp_istore_n [1, 0] (ls' := [(0, jR a0), (2, jI (hI h 825 a0))]) dX11_elements_44 (by decide) rfl ?_
      refine wp_aload_n 0 dX11_elements_45 rfl ?_
      refine wp_getI (ci := 8) (j := 26) rfl (by decide) gX11_91 dX11_elements_46 c1 rfl (fun q => ?_)
      have f4 := q
      replace k := k q
      refine wp_if_eq 135 dX11_elements_49 rfl (fun q => ?_) (fun q => ?_)
      · replace k := k.1 q
        refine wp_aload_n 0 dX11_elements_135 rfl ?_
        refine wp_getI (ci := 8) (j := 26) rfl (by decide) gX11_91 dX11_elements_136 c1 rfl (fun q => ?_)
        refine wp_if_eq 150 dX11_elements_139 rfl (fun q => ?_) (fun q => ?_)
        · replace k := k.1 q
          refine wp_aload_n 0 dX11_elements_150 rfl ?_
          refine wp_callV (ci := 8) (y' := mX11_aiHere) (st := []) [] rfl rfl rfl fX11_aiHere kX11_348 nX11_aiHere dX11_elements_151 (Nat.le_of_ble_eq_true rfl) c1 ?_
          refine jCall.mono k (fun o h151 k => ?_)
          obtain ⟨v151, e, k⟩ := k
          subst e
          show jWp (d + 1) mX11_elements 154 [(0, jR a0), (2, jI (hI h 825 a0))] [jI v151] h151 Q
          exact k
        · replace k := k.2 q
          refine wp_aload_n 0 dX11_elements_142 rfl ?_
          refine wp_iload_n 1 dX11_elements_143 rfl ?_
          refine wp_callV (ci := 8) (y' := mX11_aiTo) (st := []) [jI (hI h 825 a0)] rfl rfl rfl fX11_aiTo kX11_345 nX11_aiTo dX11_elements_144 (Nat.le_of_ble_eq_true rfl) c1 ?_
          refine jCall.mono k (fun o h144 k => ?_)
          obtain ⟨v144, e, k⟩ := k
          subst e
          show jWp (d + 1) mX11_elements 147 [(0, jR a0), (2, jI (hI h 825 a0))] [jI v144] h144 Q
          refine wp_goto 154 dX11_elements_147 rfl ?_
          exact k
      · replace k := k.2 q
        refine wp_aload_n 0 dX11_elements_52 rfl ?_
        refine wp_aload_n 0 dX11_elements_53 rfl ?_
        refine wp_getI (ci := 8) (j := 25) rfl (by decide) gX11_88 dX11_elements_54 c1 rfl (fun q => ?_)
        refine wp_callV (ci := 8) (y' := mX11_here) (st := []) [jI (hI h 825 a0)] rfl rfl rfl fX11_here kX11_296 nX11_here dX11_elements_57 (Nat.le_of_ble_eq_true rfl) c1 ?_
        refine jCall.mono k (fun o h57 k => ?_)
        obtain ⟨v57, e, k⟩ := k
        subst e
        show jWp (d + 1) mX11_elements 60 [(0, jR a0), (2, jI (hI h 825 a0))] [jI v57] h57 Q
        refine wp_bipush dX11_elements_60 ⟨by decide, by decide⟩ ?_
        refine wp_icmp_eq 75 dX11_elements_62 rfl (fun q => ?_) (fun q => ?_)
        · replace k := k.1 q
          refine wp_aload_n 0 dX11_elements_75 rfl ?_
          refine wp_dup dX11_elements_76 rfl ?_
          have c5 := k.1
          replace k := k.2
          refine wp_getI (ci := 8) (j := 25) rfl (by decide) gX11_88 dX11_elements_77 c5 rfl (fun q => ?_)
          have f6 := q
          replace k := k q
          refine wp_iconst dX11_elements_80 ⟨by decide, by decide⟩ ?_
          have c7 := k.1
          replace k := k.2
          refine wp_iadd dX11_elements_81 c7 ?_
          refine wp_putI (ci := 8) (j := 25) rfl (by decide) gX11_88 dX11_elements_82 c5 (Or.inl rfl) rfl ?_
          refine wp_aload_n 0 dX11_elements_85 rfl ?_
          refine wp_getI (ci := 8) (j := 25) rfl (by decide) gX11_88 dX11_elements_86 c5 rfl (fun q => ?_)
          have f8 := q
          replace k := k q
          refine wp_aload_n 0 dX11_elements_89 rfl ?_
          refine wp_getI (ci := 8) (j := 21) rfl (by decide) gX11_76 dX11_elements_90 c5 rfl (fun q => ?_)
          have f9 := q
          replace k := k q
          refine wp_icmp_ne 106 dX11_elements_93 rfl (fun q => ?_) (fun q => ?_)
          · replace k := k.1 q
            refine wp_aload_n 0 dX11_elements_106 rfl ?_
            refine wp_getI (ci := 8) (j := 25) rfl (by decide) gX11_88 dX11_elements_107 c5 rfl (fun q => ?_)
            refine wp_istore_n [1, 0] (ls' := [(0, jR a0), (2, jI (hI (sI h57 825 a0 ((hI h57 825 a0) + 1)) 825 a0))]) dX11_elements_110 (by decide) rfl ?_
            exact k
          · replace k := k.2 q
            refine wp_aload_n 0 dX11_elements_96 rfl ?_
            refine wp_iconst dX11_elements_97 ⟨by decide, by decide⟩ ?_
            refine wp_aload_n 0 dX11_elements_98 rfl ?_
            refine wp_getI (ci := 8) (j := 21) rfl (by decide) gX11_76 dX11_elements_99 c5 rfl (fun q => ?_)
            refine wp_callV (ci := 8) (y' := mX11_fault) (st := []) [jI 1, jI (hI (sI h57 825 a0 ((hI h57 825 a0) + 1)) 821 a0)] rfl rfl rfl fX11_fault kX11_304 nX11_fault dX11_elements_102 (Nat.le_of_ble_eq_true rfl) c5 ?_
            refine jCall.mono k (fun o h102 k => ?_)
            obtain ⟨v102, e, k⟩ := k
            subst e
            show jWp (d + 1) mX11_elements 105 [(0, jR a0), (2, jI (hI h 825 a0))] [jI v102] h102 Q
            have c10 := k.1
            replace k := k.2
            exact wp_zreturn dX11_elements_105 rfl c10.1 c10.2 k
        · replace k := k.2 q
          refine wp_aload_n 0 dX11_elements_65 rfl ?_
          refine wp_iconst dX11_elements_66 ⟨by decide, by decide⟩ ?_
          refine wp_aload_n 0 dX11_elements_67 rfl ?_
          have c11 := k.1
          replace k := k.2
          refine wp_getI (ci := 8) (j := 25) rfl (by decide) gX11_88 dX11_elements_68 c11 rfl (fun q => ?_)
          have f12 := q
          replace k := k q
          refine wp_callV (ci := 8) (y' := mX11_fault) (st := []) [jI 1, jI (hI h57 825 a0)] rfl rfl rfl fX11_fault kX11_304 nX11_fault dX11_elements_71 (Nat.le_of_ble_eq_true rfl) c11 ?_
          refine jCall.mono k (fun o h71 k => ?_)
          obtain ⟨v71, e, k⟩ := k
          subst e
          show jWp (d + 1) mX11_elements 74 [(0, jR a0), (2, jI (hI h 825 a0))] [jI v71] h71 Q
          have c13 := k.1
          replace k := k.2
          exact wp_zreturn dX11_elements_74 rfl c13.1 c13.2 k
    · replace k := k.2 q
      refine wp_aload_n 0 dX11_elements_30 rfl ?_
      refine wp_iconst dX11_elements_31 ⟨by decide, by decide⟩ ?_
      refine wp_aload_n 0 dX11_elements_32 rfl ?_
      refine wp_getI (ci := 8) (j := 21) rfl (by decide) gX11_76 dX11_elements_33 c1 rfl (fun q => ?_)
      refine wp_callV (ci := 8) (y' := mX11_fault) (st := []) [jI 1, jI (hI h 821 a0)] rfl rfl rfl fX11_fault kX11_304 nX11_fault dX11_elements_36 (Nat.le_of_ble_eq_true rfl) c1 ?_
      refine jCall.mono k (fun o h36 k => ?_)
      obtain ⟨v36, e, k⟩ := k
      subst e
      show jWp (d + 1) mX11_elements 39 [(0, jR a0), (1, jI a1)] [jI v36] h36 Q
      have c14 := k.1
      replace k := k.2
      exact wp_zreturn dX11_elements_39 rfl c14.1 c14.2 k
theorem bX11_elements_154 {d : Nat} {h : jH} {Q : jO → jH → Prop} {a0 : Nat} {a2 : Int} {s0 : Int} (k : jOK h → j32 a2 → ((0 ≤ s0 → hK h a0 = 9 ∧ hK h (hR h 813 a0) = 10 ∧ 0 ≤ (9 : Int) ∧ 9 < hN h (hR h 813 a0) ∧ (j32 (hA h (hR h 813 a0) 9) → (((hA h (hR h 813 a0) 9) ≠ 20 → (j32 (hI h 825 a0) → hK h (hR h 828 a0) = 10 ∧ 0 ≤ (hA h (hR h 813 a0) 9) ∧ (hA h (hR h 813 a0) 9) < hN h (hR h 828 a0) ∧ (j32 (hI h 826 a0) → (((hI h 826 a0) = 0 → jWp (d + 1) mX11_elements 233 [(0, jR a0), (2, jI a2), (3, jI s0)] [] (sA h (hR h 828 a0) (hA h (hR h 813 a0) 9) (hI h 825 a0)) Q) ∧ (¬ ((hI h 826 a0) = 0) → (j32 (hI h 821 a0) → ((a2 ≠ (hI h 821 a0) → jWp (d + 1) mX11_elements 233 [(0, jR a0), (2, jI a2), (3, jI s0)] [] (sA h (hR h 828 a0) (hA h (hR h 813 a0) 9) (hI h 825 a0)) Q) ∧ (a2 = (hI h 821 a0) → jCall d mX11_fault [jR a0, jI 1, jI (hI h 821 a0)] (sA h (hR h 828 a0) (hA h (hR h 813 a0) 9) (hI h 825 a0)) (fun o h229 => ∃ v229, o = .inl (some (jI v229)) ∧ (0 ≤ v229 ∧ v229 ≤ 1) ∧ Q (.inl (some (jI v229))) h229))))))))) ∧ ((hA h (hR h 813 a0) 9) = 20 → (j32 (hI h 825 a0) → jCall d mX11_fault [jR a0, jI 9, jI (hI h 825 a0)] h (fun o h188 => ∃ v188, o = .inl (some (jI v188)) ∧ (0 ≤ v188 ∧ v188 ≤ 1) ∧ Q (.inl (some (jI v188))) h188)))))) ∧ (¬ (0 ≤ s0) → hK h a0 = 9 ∧ (j32 (hI h 825 a0) → jCall d mX11_fault [jR a0, jI 2, jI (hI h 825 a0)] h (fun o h165 => ∃ v165, o = .inl (some (jI v165)) ∧ (0 ≤ v165 ∧ v165 ≤ 1) ∧ Q (.inl (some (jI v165))) h165))))) : jWp (d + 1) mX11_elements 154 [(0, jR a0), (2, jI a2)] [jI s0] h Q := by
  refine jw_ok (fun ok q => ?_)
  replace k := k ok (q _ (.tail _ (.head _)))
  refine wp_istore_n [1, 2, 0] (ls' := [(0, jR a0), (2, jI a2), (3, jI s0)]) dX11_elements_154 (by decide) rfl ?_
  refine wp_iload_n 2 dX11_elements_155 rfl ?_
  refine wp_if_ge 169 dX11_elements_156 rfl (fun q => ?_) (fun q => ?_)
  · replace k := k.1 q
    refine wp_aload_n 0 dX11_elements_169 rfl ?_
    have c1 := k.1
    replace k := k.2
    refine wp_getR (ci := 8) (j := 13) rfl (by decide) gX11_51 dX11_elements_170 c1 rfl ?_
    refine wp_bipush dX11_elements_173 ⟨by decide, by decide⟩ ?_
    have c2 := k.1
    replace k := k.2
    have c3 := k.1
    replace k := k.2
    have c4 := k.1
    replace k := k.2
    refine wp_iaload dX11_elements_175 c2 c3 c4 (fun q => ?_)
    have f5 := q
    replace k := k q
    refine wp_bipush dX11_elements_176 ⟨by decide, by decide⟩ ?_
    refine wp_icmp_ne 192 dX11_elements_178 rfl (fun q => ?_) (fun q => ?_)
    · replace k := k.1 q
      refine wp_aload_n 0 dX11_elements_192 rfl ?_
      refine wp_getR (ci := 8) (j := 28) rfl (by decide) gX11_98 dX11_elements_193 c1 rfl ?_
      refine wp_aload_n 0 dX11_elements_196 rfl ?_
      refine wp_getR (ci := 8) (j := 13) rfl (by decide) gX11_51 dX11_elements_197 c1 rfl ?_
      refine wp_bipush dX11_elements_200 ⟨by decide, by decide⟩ ?_
      refine wp_iaload dX11_elements_202 c2 c3 c4 (fun q => ?_)
      refine wp_aload_n 0 dX11_elements_203 rfl ?_
      refine wp_getI (ci := 8) (j := 25) rfl (by decide) gX11_88 dX11_elements_204 c1 rfl (fun q => ?_)
      have f6 := q
      replace k := k q
      have c7 := k.1
      replace k := k.2
      have c8 := k.1
      replace k := k.2
      have c9 := k.1
      replace k := k.2
      refine wp_iastore dX11_elements_207 c7 c8 c9 ?_
      refine wp_aload_n 0 dX11_elements_208 rfl ?_
      refine wp_getI (ci := 8) (j := 26) rfl (by decide) gX11_91 dX11_elements_209 c1 rfl (fun q => ?_)
      have f10 := q
      replace k := k q
      refine wp_if_eq 233 dX11_elements_212 rfl (fun q => ?_) (fun q => ?_)
      · replace k := k.1 q
        exact k
      · replace k := k.2 q
        refine wp_iload_n 1 dX11_elements_215 rfl ?_
        refine wp_aload_n 0 dX11_elements_216 rfl ?_
        refine wp_getI (ci := 8) (j := 21) rfl (by decide) gX11_76 dX11_elements_217 c1 rfl (fun q => ?_)
        have f11 := q
        replace k := k q
        refine wp_icmp_ne 233 dX11_elements_220 rfl (fun q => ?_) (fun q => ?_)
        · replace k := k.1 q
          exact k
        · replace k := k.2 q
          refine wp_aload_n 0 dX11_elements_223 rfl ?_
          refine wp_iconst dX11_elements_224 ⟨by decide, by decide⟩ ?_
          refine wp_aload_n 0 dX11_elements_225 rfl ?_
          refine wp_getI (ci := 8) (j := 21) rfl (by decide) gX11_76 dX11_elements_226 c1 rfl (fun q => ?_)
          refine wp_callV (ci := 8) (y' := mX11_fault) (st := []) [jI 1, jI (hI h 821 a0)] rfl rfl rfl fX11_fault kX11_304 nX11_fault dX11_elements_229 (Nat.le_of_ble_eq_true rfl) c1 ?_
          refine jCall.mono k (fun o h229 k => ?_)
          obtain ⟨v229, e, k⟩ := k
          subst e
          show jWp (d + 1) mX11_elements 232 [(0, jR a0), (2, jI a2), (3, jI s0)] [jI v229] h229 Q
          have c12 := k.1
          replace k := k.2
          exact wp_zreturn dX11_elements_232 rfl c12.1 c12.2 k
    · replace k := k.2 q
      refine wp_aload_n 0 dX11_elements_181 rfl ?_
      refine wp_bipush dX11_elements_182 ⟨by decide, by decide⟩ ?_
      refine wp_aload_n 0 dX11_elements_184 rfl ?_
      refine wp_getI (ci := 8) (j := 25) rfl (by decide) gX11_88 dX11_elements_185 c1 rfl (fun q => ?_)
      have f13 := q
      replace k := k q
      refine wp_callV (ci := 8) (y' := mX11_fault) (st := []) [jI 9, jI (hI h 825 a0)] rfl rfl rfl fX11_fault kX11_304 nX11_fault dX11_elements_188 (Nat.le_of_ble_eq_true rfl) c1 ?_
      refine jCall.mono k (fun o h188 k => ?_)
      obtain ⟨v188, e, k⟩ := k
      subst e
      show jWp (d + 1) mX11_elements 191 [(0, jR a0), (2, jI a2), (3, jI s0)] [jI v188] h188 Q
      have c14 := k.1
      replace k := k.2
      exact wp_zreturn dX11_elements_191 rfl c14.1 c14.2 k
  · replace k := k.2 q
    refine wp_aload_n 0 dX11_elements_159 rfl ?_
    refine wp_iconst dX11_elements_160 ⟨by decide, by decide⟩ ?_
    refine wp_aload_n 0 dX11_elements_161 rfl ?_
    have c15 := k.1
    replace k := k.2
    refine wp_getI (ci := 8) (j := 25) rfl (by decide) gX11_88 dX11_elements_162 c15 rfl (fun q => ?_)
    have f16 := q
    replace k := k q
    refine wp_callV (ci := 8) (y' := mX11_fault) (st := []) [jI 2, jI (hI h 825 a0)] rfl rfl rfl fX11_fault kX11_304 nX11_fault dX11_elements_165 (Nat.le_of_ble_eq_true rfl) c15 ?_
    refine jCall.mono k (fun o h165 k => ?_)
    obtain ⟨v165, e, k⟩ := k
    subst e
    show jWp (d + 1) mX11_elements 168 [(0, jR a0), (2, jI a2), (3, jI s0)] [jI v165] h165 Q
    have c17 := k.1
    replace k := k.2
    exact wp_zreturn dX11_elements_168 rfl c17.1 c17.2 k
theorem bX11_elements_111 {d : Nat} {h : jH} {Q : jO → jH → Prop} {a0 : Nat} {a2 : Int} (k : jOK h → j32 a2 → hK h a0 = 9 ∧ (j32 (hI h 821 a0) → (((hI h 821 a0) ≤ a2 → (j32 (hI h 826 a0) → (((hI h 826 a0) = 0 → jCall d mX11_aiHere [jR a0] h (fun o h151 => ∃ v151, o = .inl (some (jI v151)) ∧ jWp (d + 1) mX11_elements 154 [(0, jR a0), (2, jI a2)] [jI v151] h151 Q)) ∧ (¬ ((hI h 826 a0) = 0) → jCall d mX11_aiTo [jR a0, jI a2] h (fun o h144 => ∃ v144, o = .inl (some (jI v144)) ∧ jWp (d + 1) mX11_elements 154 [(0, jR a0), (2, jI a2)] [jI v144] h144 Q))))) ∧ (¬ ((hI h 821 a0) ≤ a2) → jCall d mX11_here [jR a0, jI a2] h (fun o h121 => ∃ v121, o = .inl (some (jI v121)) ∧ ((v121 = 41 → hK h121 a0 = 9 ∧ (j32 (hI h121 826 a0) → (((hI h121 826 a0) = 0 → jCall d mX11_aiHere [jR a0] h121 (fun o h151_1 => ∃ v151_1, o = .inl (some (jI v151_1)) ∧ jWp (d + 1) mX11_elements 154 [(0, jR a0), (2, jI a2)] [jI v151_1] h151_1 Q)) ∧ (¬ ((hI h121 826 a0) = 0) → jCall d mX11_aiTo [jR a0, jI a2] h121 (fun o h144_1 => ∃ v144_1, o = .inl (some (jI v144_1)) ∧ jWp (d + 1) mX11_elements 154 [(0, jR a0), (2, jI a2)] [jI v144_1] h144_1 Q))))) ∧ (¬ (v121 = 41) → j32 (a2 + 1) ∧ jWp (d + 1) mX11_elements 111 [(0, jR a0), (2, jI (a2 + 1))] [] h121 Q))))))) : jWp (d + 1) mX11_elements 111 [(0, jR a0), (2, jI a2)] [] h Q := by
  refine jw_ok (fun ok q => ?_)
  replace k := k ok (q _ (.tail _ (.head _)))
  refine wp_iload_n 1 dX11_elements_111 rfl ?_
  refine wp_aload_n 0 dX11_elements_112 rfl ?_
  have c1 := k.1
  replace k := k.2
  refine wp_getI (ci := 8) (j := 21) rfl (by decide) gX11_76 dX11_elements_113 c1 rfl (fun q => ?_)
  have f2 := q
  replace k := k q
  refine wp_icmp_ge 135 dX11_elements_116 rfl (fun q => ?_) (fun q => ?_)
  · replace k := k.1 q
    refine wp_aload_n 0 dX11_elements_135 rfl ?_
    refine wp_getI (ci := 8) (j := 26) rfl (by decide) gX11_91 dX11_elements_136 c1 rfl (fun q => ?_)
    have f3 := q
    replace k := k q
    refine wp_if_eq 150 dX11_elements_139 rfl (fun q => ?_) (fun q => ?_)
    · replace k := k.1 q
      refine wp_aload_n 0 dX11_elements_150 rfl ?_
      refine wp_callV (ci := 8) (y' := mX11_aiHere) (st := []) [] rfl rfl rfl fX11_aiHere kX11_348 nX11_aiHere dX11_elements_151 (Nat.le_of_ble_eq_true rfl) c1 ?_
      refine jCall.mono k (fun o h151 k => ?_)
      obtain ⟨v151, e, k⟩ := k
      subst e
      show jWp (d + 1) mX11_elements 154 [(0, jR a0), (2, jI a2)] [jI v151] h151 Q
      exact k
    · replace k := k.2 q
      refine wp_aload_n 0 dX11_elements_142 rfl ?_
      refine wp_iload_n 1 dX11_elements_143 rfl ?_
      refine wp_callV (ci := 8) (y' := mX11_aiTo) (st := []) [jI a2] rfl rfl rfl fX11_aiTo kX11_345 nX11_aiTo dX11_elements_144 (Nat.le_of_ble_eq_true rfl) c1 ?_
      refine jCall.mono k (fun o h144 k => ?_)
      obtain ⟨v144, e, k⟩ := k
      subst e
      show jWp (d + 1) mX11_elements 147 [(0, jR a0), (2, jI a2)] [jI v144] h144 Q
      refine wp_goto 154 dX11_elements_147 rfl ?_
      exact k
  · replace k := k.2 q
    refine wp_aload_n 0 dX11_elements_119 rfl ?_
    refine wp_iload_n 1 dX11_elements_120 rfl ?_
    refine wp_callV (ci := 8) (y' := mX11_here) (st := []) [jI a2] rfl rfl rfl fX11_here kX11_296 nX11_here dX11_elements_121 (Nat.le_of_ble_eq_true rfl) c1 ?_
    refine jCall.mono k (fun o h121 k => ?_)
    obtain ⟨v121, e, k⟩ := k
    subst e
    show jWp (d + 1) mX11_elements 124 [(0, jR a0), (2, jI a2)] [jI v121] h121 Q
    refine wp_bipush dX11_elements_124 ⟨by decide, by decide⟩ ?_
    refine wp_icmp_eq 135 dX11_elements_126 rfl (fun q => ?_) (fun q => ?_)
    · replace k := k.1 q
      refine wp_aload_n 0 dX11_elements_135 rfl ?_
      have c4 := k.1
      replace k := k.2
      refine wp_getI (ci := 8) (j := 26) rfl (by decide) gX11_91 dX11_elements_136 c4 rfl (fun q => ?_)
      have f5 := q
      replace k := k q
      refine wp_if_eq 150 dX11_elements_139 rfl (fun q => ?_) (fun q => ?_)
      · replace k := k.1 q
        refine wp_aload_n 0 dX11_elements_150 rfl ?_
        refine wp_callV (ci := 8) (y' := mX11_aiHere) (st := []) [] rfl rfl rfl fX11_aiHere kX11_348 nX11_aiHere dX11_elements_151 (Nat.le_of_ble_eq_true rfl) c4 ?_
        refine jCall.mono k (fun o h151_1 k => ?_)
        obtain ⟨v151_1, e, k⟩ := k
        subst e
        show jWp (d + 1) mX11_elements 154 [(0, jR a0), (2, jI a2)] [jI v151_1] h151_1 Q
        exact k
      · replace k := k.2 q
        refine wp_aload_n 0 dX11_elements_142 rfl ?_
        refine wp_iload_n 1 dX11_elements_143 rfl ?_
        refine wp_callV (ci := 8) (y' := mX11_aiTo) (st := []) [jI a2] rfl rfl rfl fX11_aiTo kX11_345 nX11_aiTo dX11_elements_144 (Nat.le_of_ble_eq_true rfl) c4 ?_
        refine jCall.mono k (fun o h144_1 k => ?_)
        obtain ⟨v144_1, e, k⟩ := k
        subst e
        show jWp (d + 1) mX11_elements 147 [(0, jR a0), (2, jI a2)] [jI v144_1] h144_1 Q
        refine wp_goto 154 dX11_elements_147 rfl ?_
        exact k
    · replace k := k.2 q
      have c6 := k.1
      replace k := k.2
      refine wp_iinc 1 [1, 0] (ls' := [(0, jR a0), (2, jI (a2 + 1))]) dX11_elements_129 rfl c6 ⟨by decide, by decide⟩ (by decide) rfl ?_
      refine wp_goto 111 dX11_elements_132 rfl ?_
      exact k
theorem bX11_elements_233 {d : Nat} {h : jH} {Q : jO → jH → Prop} {a0 : Nat} {a2 : Int} {a3 : Int} (k : jOK h → j32 a2 → j32 a3 → hK h a0 = 9 ∧ (j32 (hI h 826 a0) → (((hI h 826 a0) = 0 → (j32 (hI h 825 a0) → hK h (hR h 802 a0) = 10 ∧ 0 ≤ a3 ∧ a3 < hN h (hR h 802 a0) ∧ (j32 (hA h (hR h 802 a0) a3) → j32 ((hI h 825 a0) + (hA h (hR h 802 a0) a3)) ∧ jWp (d + 1) mX11_elements 258 [(0, jR a0), (3, jI a3)] [jI ((hI h 825 a0) + (hA h (hR h 802 a0) a3)), jR a0] h Q))) ∧ (¬ ((hI h 826 a0) = 0) → j32 (a2 + 1) ∧ jWp (d + 1) mX11_elements 258 [(0, jR a0), (3, jI a3)] [jI (a2 + 1), jR a0] h Q)))) : jWp (d + 1) mX11_elements 233 [(0, jR a0), (2, jI a2), (3, jI a3)] [] h Q := by
  refine jw_ok (fun ok q => ?_)
  replace k := k ok (q _ (.tail _ (.head _))) (q _ (.tail _ (.tail _ (.head _))))
  refine wp_aload_n 0 dX11_elements_233 rfl ?_
  refine wp_aload_n 0 dX11_elements_234 rfl ?_
  have c1 := k.1
  replace k := k.2
  refine wp_getI (ci := 8) (j := 26) rfl (by decide) gX11_91 dX11_elements_235 c1 rfl (fun q => ?_)
  have f2 := q
  replace k := k q
  refine wp_if_eq 247 dX11_elements_238 rfl (fun q => ?_) (fun q => ?_)
  · replace k := k.1 q
    refine wp_aload_n 0 dX11_elements_247 rfl ?_
    refine wp_getI (ci := 8) (j := 25) rfl (by decide) gX11_88 dX11_elements_248 c1 rfl (fun q => ?_)
    have f3 := q
    replace k := k q
    refine wp_aload_n 0 dX11_elements_251 rfl ?_
    refine wp_getR (ci := 8) (j := 2) rfl (by decide) gX11_16 dX11_elements_252 c1 rfl ?_
    refine wp_iload_n 2 dX11_elements_255 rfl ?_
    have c4 := k.1
    replace k := k.2
    have c5 := k.1
    replace k := k.2
    have c6 := k.1
    replace k := k.2
    refine wp_iaload dX11_elements_256 c4 c5 c6 (fun q => ?_)
    have f7 := q
    replace k := k q
    have c8 := k.1
    replace k := k.2
    refine wp_iadd dX11_elements_257 c8 ?_
    refine wp_sub [0, 2] (ls' := [(0, jR a0), (3, jI a3)]) rfl ?_
    exact k
  · replace k := k.2 q
    refine wp_iload_n 1 dX11_elements_241 rfl ?_
    refine wp_iconst dX11_elements_242 ⟨by decide, by decide⟩ ?_
    have c9 := k.1
    replace k := k.2
    refine wp_iadd dX11_elements_243 c9 ?_
    refine wp_goto 258 dX11_elements_244 rfl ?_
    refine wp_sub [0, 2] (ls' := [(0, jR a0), (3, jI a3)]) rfl ?_
    exact k
theorem bX11_elements_258 {d : Nat} {h : jH} {Q : jO → jH → Prop} {a0 : Nat} {a3 : Int} {s0 : Int} {s1 : Nat} (k : jOK h → j32 a3 → hK h s1 = 9 ∧ hK h a0 = 9 ∧ hK h (hR h 813 a0) = 10 ∧ 0 ≤ (9 : Int) ∧ 9 < hN h (hR h 813 a0) ∧ (j32 (hA h (hR h 813 a0) 9) → j32 (180 + (hA h (hR h 813 a0) 9)) ∧ jCall d mX11_value [jR a0, jI (180 + (hA h (hR h 813 a0) 9)), jI a3] (sI h 825 s1 s0) (fun o h274 => ∃ v274, o = .inl (some (jI v274)) ∧ ((v274 ≠ 0 → hK h274 a0 = 9 ∧ hK h274 (hR h274 813 a0) = 10 ∧ 0 ≤ (9 : Int) ∧ 9 < hN h274 (hR h274 813 a0) ∧ (j32 (hA h274 (hR h274 813 a0) 9) → j32 ((hA h274 (hR h274 813 a0) 9) + 1) ∧ (j32 (hI h274 825 a0) → (j32 (hI h274 821 a0) → (((hI h274 821 a0) ≤ (hI h274 825 a0) → jWp (d + 1) mX11_elements 309 [(0, jR a0)] [jI 0] (sA h274 (hR h274 813 a0) 9 ((hA h274 (hR h274 813 a0) 9) + 1)) Q) ∧ (¬ ((hI h274 821 a0) ≤ (hI h274 825 a0)) → jWp (d + 1) mX11_elements 309 [(0, jR a0)] [jI 1] (sA h274 (hR h274 813 a0) 9 ((hA h274 (hR h274 813 a0) 9) + 1)) Q)))))) ∧ (v274 = 0 → Q (.inl (some (jI 0))) h274))))) : jWp (d + 1) mX11_elements 258 [(0, jR a0), (3, jI a3)] [jI s0, jR s1] h Q := by
  refine jw_ok (fun ok q => ?_)
  replace k := k ok (q _ (.tail _ (.head _)))
  have c1 := k.1
  replace k := k.2
  refine wp_putI (ci := 8) (j := 25) rfl (by decide) gX11_88 dX11_elements_258 c1 (Or.inl rfl) rfl ?_
  refine wp_aload_n 0 dX11_elements_261 rfl ?_
  refine wp_sipush dX11_elements_262 ⟨by decide, by decide⟩ ?_
  refine wp_aload_n 0 dX11_elements_265 rfl ?_
  have c2 := k.1
  replace k := k.2
  refine wp_getR (ci := 8) (j := 13) rfl (by decide) gX11_51 dX11_elements_266 c2 rfl ?_
  refine wp_bipush dX11_elements_269 ⟨by decide, by decide⟩ ?_
  have c3 := k.1
  replace k := k.2
  have c4 := k.1
  replace k := k.2
  have c5 := k.1
  replace k := k.2
  refine wp_iaload dX11_elements_271 c3 c4 c5 (fun q => ?_)
  have f6 := q
  replace k := k q
  have c7 := k.1
  replace k := k.2
  refine wp_iadd dX11_elements_272 c7 ?_
  refine wp_iload_n 1 dX11_elements_273 rfl ?_
  refine wp_callV (ci := 8) (y' := mX11_value) (st := []) [jI (180 + (hA h (hR h 813 a0) 9)), jI a3] rfl rfl rfl fX11_value kX11_351 nX11_value dX11_elements_274 (Nat.le_of_ble_eq_true rfl) c2 ?_
  refine jCall.mono k (fun o h274 k => ?_)
  obtain ⟨v274, e, k⟩ := k
  subst e
  show jWp (d + 1) mX11_elements 277 [(0, jR a0), (3, jI a3)] [jI v274] h274 Q
  refine wp_if_ne 282 dX11_elements_277 rfl (fun q => ?_) (fun q => ?_)
  · replace k := k.1 q
    refine wp_aload_n 0 dX11_elements_282 rfl ?_
    have c8 := k.1
    replace k := k.2
    refine wp_getR (ci := 8) (j := 13) rfl (by decide) gX11_51 dX11_elements_283 c8 rfl ?_
    refine wp_bipush dX11_elements_286 ⟨by decide, by decide⟩ ?_
    refine wp_dup2 dX11_elements_288 rfl rfl ?_
    have c9 := k.1
    replace k := k.2
    have c10 := k.1
    replace k := k.2
    have c11 := k.1
    replace k := k.2
    refine wp_iaload dX11_elements_289 c9 c10 c11 (fun q => ?_)
    have f12 := q
    replace k := k q
    refine wp_iconst dX11_elements_290 ⟨by decide, by decide⟩ ?_
    have c13 := k.1
    replace k := k.2
    refine wp_iadd dX11_elements_291 c13 ?_
    refine wp_iastore dX11_elements_292 c9 c10 c11 ?_
    refine wp_aload_n 0 dX11_elements_293 rfl ?_
    refine wp_getI (ci := 8) (j := 25) rfl (by decide) gX11_88 dX11_elements_294 c8 rfl (fun q => ?_)
    have f14 := q
    replace k := k q
    refine wp_aload_n 0 dX11_elements_297 rfl ?_
    refine wp_getI (ci := 8) (j := 21) rfl (by decide) gX11_76 dX11_elements_298 c8 rfl (fun q => ?_)
    have f15 := q
    replace k := k q
    refine wp_icmp_ge 308 dX11_elements_301 rfl (fun q => ?_) (fun q => ?_)
    · replace k := k.1 q
      refine wp_iconst dX11_elements_308 ⟨by decide, by decide⟩ ?_
      refine wp_sub [0] (ls' := [(0, jR a0)]) rfl ?_
      exact k
    · replace k := k.2 q
      refine wp_iconst dX11_elements_304 ⟨by decide, by decide⟩ ?_
      refine wp_goto 309 dX11_elements_305 rfl ?_
      refine wp_sub [0] (ls' := [(0, jR a0)]) rfl ?_
      exact k
  · replace k := k.2 q
    refine wp_iconst dX11_elements_280 ⟨by decide, by decide⟩ ?_
    exact wp_zreturn dX11_elements_281 rfl (by decide) (by decide) k
theorem bX11_elements_309 {d : Nat} {h : jH} {Q : jO → jH → Prop} {a0 : Nat} {s0 : Int} (k : jOK h → ((s0 = 0 → jWp (d + 1) mX11_elements 344 [(0, jR a0), (1, jI s0)] [] h Q) ∧ (¬ (s0 = 0) → hK h a0 = 9 ∧ (j32 (hI h 826 a0) → (((hI h 826 a0) ≠ 0 → jWp (d + 1) mX11_elements 344 [(0, jR a0), (1, jI s0)] [] h Q) ∧ ((hI h 826 a0) = 0 → (j32 (hI h 825 a0) → jCall d mX11_here [jR a0, jI (hI h 825 a0)] h (fun o h326 => ∃ v326, o = .inl (some (jI v326)) ∧ ((v326 ≠ 29 → jWp (d + 1) mX11_elements 344 [(0, jR a0), (1, jI s0)] [] h326 Q) ∧ (v326 = 29 → hK h326 a0 = 9 ∧ (j32 (hI h326 825 a0) → j32 ((hI h326 825 a0) + 1) ∧ jWp (d + 1) mX11_elements 344 [(0, jR a0), (1, jI s0)] [] (sI h326 825 a0 ((hI h326 825 a0) + 1)) Q))))))))))) : jWp (d + 1) mX11_elements 309 [(0, jR a0)] [jI s0] h Q := by
  refine jw_ok (fun ok q => ?_)
  replace k := k ok 
  refine wp_istore_n [1, 0] (ls' := [(0, jR a0), (1, jI s0)]) dX11_elements_309 (by decide) rfl ?_
  refine wp_iload_n 1 dX11_elements_310 rfl ?_
  refine wp_if_eq 344 dX11_elements_311 rfl (fun q => ?_) (fun q => ?_)
  · replace k := k.1 q
    exact k
  · replace k := k.2 q
    refine wp_aload_n 0 dX11_elements_314 rfl ?_
    have c1 := k.1
    replace k := k.2
    refine wp_getI (ci := 8) (j := 26) rfl (by decide) gX11_91 dX11_elements_315 c1 rfl (fun q => ?_)
    have f2 := q
    replace k := k q
    refine wp_if_ne 344 dX11_elements_318 rfl (fun q => ?_) (fun q => ?_)
    · replace k := k.1 q
      exact k
    · replace k := k.2 q
      refine wp_aload_n 0 dX11_elements_321 rfl ?_
      refine wp_aload_n 0 dX11_elements_322 rfl ?_
      refine wp_getI (ci := 8) (j := 25) rfl (by decide) gX11_88 dX11_elements_323 c1 rfl (fun q => ?_)
      have f3 := q
      replace k := k q
      refine wp_callV (ci := 8) (y' := mX11_here) (st := []) [jI (hI h 825 a0)] rfl rfl rfl fX11_here kX11_296 nX11_here dX11_elements_326 (Nat.le_of_ble_eq_true rfl) c1 ?_
      refine jCall.mono k (fun o h326 k => ?_)
      obtain ⟨v326, e, k⟩ := k
      subst e
      show jWp (d + 1) mX11_elements 329 [(0, jR a0), (1, jI s0)] [jI v326] h326 Q
      refine wp_bipush dX11_elements_329 ⟨by decide, by decide⟩ ?_
      refine wp_icmp_ne 344 dX11_elements_331 rfl (fun q => ?_) (fun q => ?_)
      · replace k := k.1 q
        exact k
      · replace k := k.2 q
        refine wp_aload_n 0 dX11_elements_334 rfl ?_
        refine wp_dup dX11_elements_335 rfl ?_
        have c4 := k.1
        replace k := k.2
        refine wp_getI (ci := 8) (j := 25) rfl (by decide) gX11_88 dX11_elements_336 c4 rfl (fun q => ?_)
        have f5 := q
        replace k := k q
        refine wp_iconst dX11_elements_339 ⟨by decide, by decide⟩ ?_
        have c6 := k.1
        replace k := k.2
        refine wp_iadd dX11_elements_340 c6 ?_
        refine wp_putI (ci := 8) (j := 25) rfl (by decide) gX11_88 dX11_elements_341 c4 (Or.inl rfl) rfl ?_
        exact k
theorem bX11_elements_344 {d : Nat} {h : jH} {Q : jO → jH → Prop} {a0 : Nat} {a1 : Int} (k : jOK h → j32 a1 → jWp (d + 1) mX11_elements 15 [(0, jR a0), (1, jI a1)] [] h Q) : jWp (d + 1) mX11_elements 344 [(0, jR a0), (1, jI a1)] [] h Q := by
  refine jw_ok (fun ok q => ?_)
  replace k := k ok (q _ (.tail _ (.head _)))
  refine wp_goto 15 dX11_elements_344 rfl ?_
  exact k
theorem bX11_has {d : Nat} {h : jH} {Q : jO → jH → Prop} {a0 : Nat} {a1 : Int} {a2 : Int} {a3 : Int} (k : jOK h → j32 a1 → j32 a2 → j32 a3 → jWp d mX11_has 3 [(0, jR a0), (1, jI a1), (2, jI a2), (3, jI a3), (4, jI 0)] [] h Q) : jCall d mX11_has [jR a0, jI a1, jI a2, jI a3] h Q := by
  refine jCall_of plX11 (Nat.le_of_ble_eq_true rfl) ?_
  show jWp d mX11_has 0 [(0, jR a0), (1, jI a1), (2, jI a2), (3, jI a3)] [] h Q
  refine jw_ok (fun ok q => ?_)
  replace k := k ok (q _ (.tail _ (.head _))) (q _ (.tail _ (.tail _ (.head _)))) (q _ (.tail _ (.tail _ (.tail _ (.head _)))))
  refine wp_iconst dX11_has_0 ⟨by decide, by decide⟩ ?_
  refine wp_istore [1, 2, 3, 4, 0] (ls' := [(0, jR a0), (1, jI a1), (2, jI a2), (3, jI a3), (4, jI 0)]) dX11_has_1 (by decide) rfl ?_
  exact k
theorem bX11_has_3 {d : Nat} {h : jH} {Q : jO → jH → Prop} {a0 : Nat} {a1 : Int} {a2 : Int} {a3 : Int} {a4 : Int} (k : jOK h → j32 a1 → j32 a2 → j32 a3 → j32 a4 → hK h a0 = 9 ∧ hK h (hR h 813 a0) = 10 ∧ 0 ≤ a1 ∧ a1 < hN h (hR h 813 a0) ∧ (j32 (hA h (hR h 813 a0) a1) → (((hA h (hR h 813 a0) a1) ≤ a4 → Q (.inl (some (jI 0))) h) ∧ (¬ ((hA h (hR h 813 a0) a1) ≤ a4) → j32 (20 * a1) ∧ j32 ((20 * a1) + a4) ∧ hK h (hR h 814 a0) = 10 ∧ 0 ≤ ((20 * a1) + a4) ∧ ((20 * a1) + a4) < hN h (hR h 814 a0) ∧ (j32 (hA h (hR h 814 a0) ((20 * a1) + a4)) → hK h (hR h 801 a0) = 10 ∧ 0 ≤ (hA h (hR h 814 a0) ((20 * a1) + a4)) ∧ (hA h (hR h 814 a0) ((20 * a1) + a4)) < hN h (hR h 801 a0) ∧ (j32 (hA h (hR h 801 a0) (hA h (hR h 814 a0) ((20 * a1) + a4))) → (((hA h (hR h 801 a0) (hA h (hR h 814 a0) ((20 * a1) + a4))) ≠ a2 → j32 (a4 + 1) ∧ jWp d mX11_has 3 [(0, jR a0), (1, jI a1), (2, jI a2), (3, jI a3), (4, jI (a4 + 1))] [] h Q) ∧ ((hA h (hR h 801 a0) (hA h (hR h 814 a0) ((20 * a1) + a4))) = a2 → hK h (hR h 802 a0) = 10 ∧ (hA h (hR h 814 a0) ((20 * a1) + a4)) < hN h (hR h 802 a0) ∧ (j32 (hA h (hR h 802 a0) (hA h (hR h 814 a0) ((20 * a1) + a4))) → (((hA h (hR h 802 a0) (hA h (hR h 814 a0) ((20 * a1) + a4))) ≠ a3 → j32 (a4 + 1) ∧ jWp d mX11_has 3 [(0, jR a0), (1, jI a1), (2, jI a2), (3, jI a3), (4, jI (a4 + 1))] [] h Q) ∧ ((hA h (hR h 802 a0) (hA h (hR h 814 a0) ((20 * a1) + a4))) = a3 → Q (.inl (some (jI 1))) h))))))))))) : jWp d mX11_has 3 [(0, jR a0), (1, jI a1), (2, jI a2), (3, jI a3), (4, jI a4)] [] h Q := by
  refine jw_ok (fun ok q => ?_)
  replace k := k ok (q _ (.tail _ (.head _))) (q _ (.tail _ (.tail _ (.head _)))) (q _ (.tail _ (.tail _ (.tail _ (.head _))))) (q _ (.tail _ (.tail _ (.tail _ (.tail _ (.head _))))))
  refine wp_iload 4 dX11_has_3 rfl ?_
  refine wp_aload_n 0 dX11_has_5 rfl ?_
  have c1 := k.1
  replace k := k.2
  refine wp_getR (ci := 8) (j := 13) rfl (by decide) gX11_51 dX11_has_6 c1 rfl ?_
  refine wp_iload_n 1 dX11_has_9 rfl ?_
  have c2 := k.1
  replace k := k.2
  have c3 := k.1
  replace k := k.2
  have c4 := k.1
  replace k := k.2
  refine wp_iaload dX11_has_10 c2 c3 c4 (fun q => ?_)
  have f5 := q
  replace k := k q
  refine wp_icmp_ge 58 dX11_has_11 rfl (fun q => ?_) (fun q => ?_)
  · replace k := k.1 q
    refine wp_iconst dX11_has_58 ⟨by decide, by decide⟩ ?_
    exact wp_zreturn dX11_has_59 rfl (by decide) (by decide) k
  · replace k := k.2 q
    refine wp_aload_n 0 dX11_has_14 rfl ?_
    refine wp_getR (ci := 8) (j := 14) rfl (by decide) gX11_54 dX11_has_15 c1 rfl ?_
    refine wp_bipush dX11_has_18 ⟨by decide, by decide⟩ ?_
    refine wp_iload_n 1 dX11_has_20 rfl ?_
    have c6 := k.1
    replace k := k.2
    refine wp_imul dX11_has_21 c6 ?_
    refine wp_iload 4 dX11_has_22 rfl ?_
    have c7 := k.1
    replace k := k.2
    refine wp_iadd dX11_has_24 c7 ?_
    have c8 := k.1
    replace k := k.2
    have c9 := k.1
    replace k := k.2
    have c10 := k.1
    replace k := k.2
    refine wp_iaload dX11_has_25 c8 c9 c10 (fun q => ?_)
    have f11 := q
    replace k := k q
    refine wp_istore [1, 2, 3, 4, 5, 0] (ls' := [(0, jR a0), (1, jI a1), (2, jI a2), (3, jI a3), (4, jI a4), (5, jI (hA h (hR h 814 a0) ((20 * a1) + a4)))]) dX11_has_26 (by decide) rfl ?_
    refine wp_aload_n 0 dX11_has_28 rfl ?_
    refine wp_getR (ci := 8) (j := 1) rfl (by decide) gX11_13 dX11_has_29 c1 rfl ?_
    refine wp_iload 5 dX11_has_32 rfl ?_
    have c12 := k.1
    replace k := k.2
    have c13 := k.1
    replace k := k.2
    have c14 := k.1
    replace k := k.2
    refine wp_iaload dX11_has_34 c12 c13 c14 (fun q => ?_)
    have f15 := q
    replace k := k q
    refine wp_iload_n 2 dX11_has_35 rfl ?_
    refine wp_icmp_ne 52 dX11_has_36 rfl (fun q => ?_) (fun q => ?_)
    · replace k := k.1 q
      have c16 := k.1
      replace k := k.2
      refine wp_iinc 4 [1, 2, 3, 4, 0] (ls' := [(0, jR a0), (1, jI a1), (2, jI a2), (3, jI a3), (4, jI (a4 + 1))]) dX11_has_52 rfl c16 ⟨by decide, by decide⟩ (by decide) rfl ?_
      refine wp_goto 3 dX11_has_55 rfl ?_
      exact k
    · replace k := k.2 q
      refine wp_aload_n 0 dX11_has_39 rfl ?_
      refine wp_getR (ci := 8) (j := 2) rfl (by decide) gX11_16 dX11_has_40 c1 rfl ?_
      refine wp_iload 5 dX11_has_43 rfl ?_
      have c17 := k.1
      replace k := k.2
      have c18 := k.1
      replace k := k.2
      refine wp_iaload dX11_has_45 c17 c13 c18 (fun q => ?_)
      have f19 := q
      replace k := k q
      refine wp_iload_n 3 dX11_has_46 rfl ?_
      refine wp_icmp_ne 52 dX11_has_47 rfl (fun q => ?_) (fun q => ?_)
      · replace k := k.1 q
        have c20 := k.1
        replace k := k.2
        refine wp_iinc 4 [1, 2, 3, 4, 0] (ls' := [(0, jR a0), (1, jI a1), (2, jI a2), (3, jI a3), (4, jI (a4 + 1))]) dX11_has_52 rfl c20 ⟨by decide, by decide⟩ (by decide) rfl ?_
        refine wp_goto 3 dX11_has_55 rfl ?_
        exact k
      · replace k := k.2 q
        refine wp_iconst dX11_has_50 ⟨by decide, by decide⟩ ?_
        exact wp_zreturn dX11_has_51 rfl (by decide) (by decide) k
theorem bX11_isItem {d : Nat} {h : jH} {Q : jO → jH → Prop} {a0 : Nat} {a1 : Int} (k : jOK h → j32 a1 → hK h a0 = 9 ∧ jCall d mX11_has [jR a0, jI a1, jI 1, jI 2] h (fun o h4 => ∃ v4, o = .inl (some (jI v4)) ∧ ((v4 ≠ 0 → Q (.inl (some (jI 1))) h4) ∧ (v4 = 0 → hK h4 a0 = 9 ∧ jCall d mX11_has [jR a0, jI a1, jI 2, jI 2] h4 (fun o h14 => ∃ v14, o = .inl (some (jI v14)) ∧ ((v14 = 0 → Q (.inl (some (jI 0))) h14) ∧ (¬ (v14 = 0) → Q (.inl (some (jI 1))) h14))))))) : jCall (d + 1) mX11_isItem [jR a0, jI a1] h Q := by
  refine jCall_of plX11 (Nat.le_of_ble_eq_true rfl) ?_
  show jWp (d + 1) mX11_isItem 0 [(0, jR a0), (1, jI a1)] [] h Q
  refine jw_ok (fun ok q => ?_)
  replace k := k ok (q _ (.tail _ (.head _)))
  refine wp_aload_n 0 dX11_isItem_0 rfl ?_
  refine wp_iload_n 1 dX11_isItem_1 rfl ?_
  refine wp_iconst dX11_isItem_2 ⟨by decide, by decide⟩ ?_
  refine wp_iconst dX11_isItem_3 ⟨by decide, by decide⟩ ?_
  have c1 := k.1
  replace k := k.2
  refine wp_callV (ci := 8) (y' := mX11_has) (st := []) [jI a1, jI 1, jI 2] rfl rfl rfl fX11_has kX11_354 nX11_has dX11_isItem_4 (Nat.le_of_ble_eq_true rfl) c1 ?_
  refine jCall.mono k (fun o h4 k => ?_)
  obtain ⟨v4, e, k⟩ := k
  subst e
  show jWp (d + 1) mX11_isItem 7 [(0, jR a0), (1, jI a1)] [jI v4] h4 Q
  refine wp_if_ne 20 dX11_isItem_7 rfl (fun q => ?_) (fun q => ?_)
  · replace k := k.1 q
    refine wp_iconst dX11_isItem_20 ⟨by decide, by decide⟩ ?_
    refine wp_goto 25 dX11_isItem_21 rfl ?_
    exact wp_zreturn dX11_isItem_25 rfl (by decide) (by decide) k
  · replace k := k.2 q
    refine wp_aload_n 0 dX11_isItem_10 rfl ?_
    refine wp_iload_n 1 dX11_isItem_11 rfl ?_
    refine wp_iconst dX11_isItem_12 ⟨by decide, by decide⟩ ?_
    refine wp_iconst dX11_isItem_13 ⟨by decide, by decide⟩ ?_
    have c2 := k.1
    replace k := k.2
    refine wp_callV (ci := 8) (y' := mX11_has) (st := []) [jI a1, jI 2, jI 2] rfl rfl rfl fX11_has kX11_354 nX11_has dX11_isItem_14 (Nat.le_of_ble_eq_true rfl) c2 ?_
    refine jCall.mono k (fun o h14 k => ?_)
    obtain ⟨v14, e, k⟩ := k
    subst e
    show jWp (d + 1) mX11_isItem 17 [(0, jR a0), (1, jI a1)] [jI v14] h14 Q
    refine wp_if_eq 24 dX11_isItem_17 rfl (fun q => ?_) (fun q => ?_)
    · replace k := k.1 q
      refine wp_iconst dX11_isItem_24 ⟨by decide, by decide⟩ ?_
      exact wp_zreturn dX11_isItem_25 rfl (by decide) (by decide) k
    · replace k := k.2 q
      refine wp_iconst dX11_isItem_20 ⟨by decide, by decide⟩ ?_
      refine wp_goto 25 dX11_isItem_21 rfl ?_
      exact wp_zreturn dX11_isItem_25 rfl (by decide) (by decide) k
theorem bX11_isPiece {d : Nat} {h : jH} {Q : jO → jH → Prop} {a0 : Nat} {a1 : Int} (k : jOK h → j32 a1 → hK h a0 = 9 ∧ jCall d mX11_has [jR a0, jI a1, jI 8006, jI 4] h (fun o h6 => ∃ v6, o = .inl (some (jI v6)) ∧ ((v6 ≠ 0 → Q (.inl (some (jI 1))) h6) ∧ (v6 = 0 → hK h6 a0 = 9 ∧ jCall d mX11_has [jR a0, jI a1, jI 8026, jI 4] h6 (fun o h18 => ∃ v18, o = .inl (some (jI v18)) ∧ ((v18 = 0 → Q (.inl (some (jI 0))) h18) ∧ (¬ (v18 = 0) → Q (.inl (some (jI 1))) h18))))))) : jCall (d + 1) mX11_isPiece [jR a0, jI a1] h Q := by
  refine jCall_of plX11 (Nat.le_of_ble_eq_true rfl) ?_
  show jWp (d + 1) mX11_isPiece 0 [(0, jR a0), (1, jI a1)] [] h Q
  refine jw_ok (fun ok q => ?_)
  replace k := k ok (q _ (.tail _ (.head _)))
  refine wp_aload_n 0 dX11_isPiece_0 rfl ?_
  refine wp_iload_n 1 dX11_isPiece_1 rfl ?_
  refine wp_sipush dX11_isPiece_2 ⟨by decide, by decide⟩ ?_
  refine wp_iconst dX11_isPiece_5 ⟨by decide, by decide⟩ ?_
  have c1 := k.1
  replace k := k.2
  refine wp_callV (ci := 8) (y' := mX11_has) (st := []) [jI a1, jI 8006, jI 4] rfl rfl rfl fX11_has kX11_354 nX11_has dX11_isPiece_6 (Nat.le_of_ble_eq_true rfl) c1 ?_
  refine jCall.mono k (fun o h6 k => ?_)
  obtain ⟨v6, e, k⟩ := k
  subst e
  show jWp (d + 1) mX11_isPiece 9 [(0, jR a0), (1, jI a1)] [jI v6] h6 Q
  refine wp_if_ne 24 dX11_isPiece_9 rfl (fun q => ?_) (fun q => ?_)
  · replace k := k.1 q
    refine wp_iconst dX11_isPiece_24 ⟨by decide, by decide⟩ ?_
    refine wp_goto 29 dX11_isPiece_25 rfl ?_
    exact wp_zreturn dX11_isPiece_29 rfl (by decide) (by decide) k
  · replace k := k.2 q
    refine wp_aload_n 0 dX11_isPiece_12 rfl ?_
    refine wp_iload_n 1 dX11_isPiece_13 rfl ?_
    refine wp_sipush dX11_isPiece_14 ⟨by decide, by decide⟩ ?_
    refine wp_iconst dX11_isPiece_17 ⟨by decide, by decide⟩ ?_
    have c2 := k.1
    replace k := k.2
    refine wp_callV (ci := 8) (y' := mX11_has) (st := []) [jI a1, jI 8026, jI 4] rfl rfl rfl fX11_has kX11_354 nX11_has dX11_isPiece_18 (Nat.le_of_ble_eq_true rfl) c2 ?_
    refine jCall.mono k (fun o h18 k => ?_)
    obtain ⟨v18, e, k⟩ := k
    subst e
    show jWp (d + 1) mX11_isPiece 21 [(0, jR a0), (1, jI a1)] [jI v18] h18 Q
    refine wp_if_eq 28 dX11_isPiece_21 rfl (fun q => ?_) (fun q => ?_)
    · replace k := k.1 q
      refine wp_iconst dX11_isPiece_28 ⟨by decide, by decide⟩ ?_
      exact wp_zreturn dX11_isPiece_29 rfl (by decide) (by decide) k
    · replace k := k.2 q
      refine wp_iconst dX11_isPiece_24 ⟨by decide, by decide⟩ ?_
      refine wp_goto 29 dX11_isPiece_25 rfl ?_
      exact wp_zreturn dX11_isPiece_29 rfl (by decide) (by decide) k
theorem bX11_wants {d : Nat} {h : jH} {Q : jO → jH → Prop} {a0 : Nat} {a1 : Int} {a2 : Int} (k : jOK h → j32 a1 → j32 a2 → hK h a0 = 9 ∧ hK h (hR h 801 a0) = 10 ∧ 0 ≤ a2 ∧ a2 < hN h (hR h 801 a0) ∧ (j32 (hA h (hR h 801 a0) a2) → hK h (hR h 803 a0) = 10 ∧ a2 < hN h (hR h 803 a0) ∧ (j32 (hA h (hR h 803 a0) a2) → (((hA h (hR h 803 a0) a2) < 0 → (((hA h (hR h 801 a0) a2) ≠ 2 → (((hA h (hR h 801 a0) a2) ≠ 37 → (((hA h (hR h 801 a0) a2) ≠ 1 → (((hA h (hR h 801 a0) a2) = 10 → jWp (d + 1) mX11_wants 195 [(0, jR a0), (1, jI a1)] [] h Q) ∧ (¬ ((hA h (hR h 801 a0) a2) = 10) → (((hA h (hR h 801 a0) a2) = 11 → jWp (d + 1) mX11_wants 195 [(0, jR a0), (1, jI a1)] [] h Q) ∧ (¬ ((hA h (hR h 801 a0) a2) = 11) → (((hA h (hR h 801 a0) a2) = 13 → jWp (d + 1) mX11_wants 195 [(0, jR a0), (1, jI a1)] [] h Q) ∧ (¬ ((hA h (hR h 801 a0) a2) = 13) → (((hA h (hR h 801 a0) a2) < 15 → jWp (d + 1) mX11_wants 217 [(0, jR a0), (1, jI a1), (3, jI (hA h (hR h 801 a0) a2))] [] h Q) ∧ (¬ ((hA h (hR h 801 a0) a2) < 15) → ((17 < (hA h (hR h 801 a0) a2) → jWp (d + 1) mX11_wants 217 [(0, jR a0), (1, jI a1), (3, jI (hA h (hR h 801 a0) a2))] [] h Q) ∧ (¬ (17 < (hA h (hR h 801 a0) a2)) → jWp (d + 1) mX11_wants 195 [(0, jR a0), (1, jI a1)] [] h Q))))))))))) ∧ ((hA h (hR h 801 a0) a2) = 1 → jCall d mX11_has [jR a0, jI a1, jI 2, jI 2] h (fun o h153 => ∃ v153, o = .inl (some (jI v153)) ∧ ((v153 ≠ 0 → jWp (d + 1) mX11_wants 164 [] [jI 0] h153 Q) ∧ (v153 = 0 → jWp (d + 1) mX11_wants 164 [] [jI 1] h153 Q)))))) ∧ ((hA h (hR h 801 a0) a2) = 37 → jCall d mX11_has [jR a0, jI a1, jI 2, jI 2] h (fun o h140 => ∃ v140, o = .inl (some (jI v140)) ∧ (0 ≤ v140 ∧ v140 ≤ 1) ∧ Q (.inl (some (jI v140))) h140)))) ∧ ((hA h (hR h 801 a0) a2) = 2 → jCall d mX11_has [jR a0, jI a1, jI 37, jI 2] h (fun o h126 => ∃ v126, o = .inl (some (jI v126)) ∧ (0 ≤ v126 ∧ v126 ≤ 1) ∧ Q (.inl (some (jI v126))) h126)))) ∧ (¬ ((hA h (hR h 803 a0) a2) < 0) → 0 ≤ (hA h (hR h 801 a0) a2) ∧ ((((hA h (hR h 801 a0) a2) / 10) < 310 → jWp (d + 1) mX11_wants 44 [(0, jR a0), (1, jI a1), (4, jI ((hA h (hR h 801 a0) a2) / 10))] [] h Q) ∧ (¬ (((hA h (hR h 801 a0) a2) / 10) < 310) → ((316 < ((hA h (hR h 801 a0) a2) / 10) → jWp (d + 1) mX11_wants 44 [(0, jR a0), (1, jI a1), (4, jI ((hA h (hR h 801 a0) a2) / 10))] [] h Q) ∧ (¬ (316 < ((hA h (hR h 801 a0) a2) / 10)) → jCall d mX11_isItem [jR a0, jI a1] h (fun o h40 => ∃ v40, o = .inl (some (jI v40)) ∧ (0 ≤ v40 ∧ v40 ≤ 1) ∧ Q (.inl (some (jI v40))) h40)))))))))) : jCall (d + 1) mX11_wants [jR a0, jI a1, jI a2] h Q := by
  refine jCall_of plX11 (Nat.le_of_ble_eq_true rfl) ?_
  show jWp (d + 1) mX11_wants 0 [(0, jR a0), (1, jI a1), (2, jI a2)] [] h Q
  refine jw_ok (fun ok q => ?_)
  replace k := k ok (q _ (.tail _ (.head _))) (q _ (.tail _ (.tail _ (.head _))))
  refine wp_aload_n 0 dX11_wants_0 rfl ?_
  have c1 := k.1
  replace k := k.2
  refine wp_getR (ci := 8) (j := 1) rfl (by decide) gX11_13 dX11_wants_1 c1 rfl ?_
  refine wp_iload_n 2 dX11_wants_4 rfl ?_
  have c2 := k.1
  replace k := k.2
  have c3 := k.1
  replace k := k.2
  have c4 := k.1
  replace k := k.2
  refine wp_iaload dX11_wants_5 c2 c3 c4 (fun q => ?_)
  have f5 := q
  replace k := k q
  refine wp_istore_n [1, 2, 3, 0] (ls' := [(0, jR a0), (1, jI a1), (2, jI a2), (3, jI (hA h (hR h 801 a0) a2))]) dX11_wants_6 (by decide) rfl ?_
  refine wp_aload_n 0 dX11_wants_7 rfl ?_
  refine wp_getR (ci := 8) (j := 3) rfl (by decide) gX11_19 dX11_wants_8 c1 rfl ?_
  refine wp_iload_n 2 dX11_wants_11 rfl ?_
  have c6 := k.1
  replace k := k.2
  have c7 := k.1
  replace k := k.2
  refine wp_iaload dX11_wants_12 c6 c3 c7 (fun q => ?_)
  have f8 := q
  replace k := k q
  refine wp_if_lt 116 dX11_wants_13 rfl (fun q => ?_) (fun q => ?_)
  · replace k := k.1 q
    refine wp_iload_n 3 dX11_wants_116 rfl ?_
    refine wp_iconst dX11_wants_117 ⟨by decide, by decide⟩ ?_
    refine wp_icmp_ne 130 dX11_wants_118 rfl (fun q => ?_) (fun q => ?_)
    · replace k := k.1 q
      refine wp_iload_n 3 dX11_wants_130 rfl ?_
      refine wp_bipush dX11_wants_131 ⟨by decide, by decide⟩ ?_
      refine wp_icmp_ne 144 dX11_wants_133 rfl (fun q => ?_) (fun q => ?_)
      · replace k := k.1 q
        refine wp_iload_n 3 dX11_wants_144 rfl ?_
        refine wp_iconst dX11_wants_145 ⟨by decide, by decide⟩ ?_
        refine wp_icmp_ne 165 dX11_wants_146 rfl (fun q => ?_) (fun q => ?_)
        · replace k := k.1 q
          refine wp_iload_n 3 dX11_wants_165 rfl ?_
          refine wp_bipush dX11_wants_166 ⟨by decide, by decide⟩ ?_
          refine wp_icmp_eq 195 dX11_wants_168 rfl (fun q => ?_) (fun q => ?_)
          · replace k := k.1 q
            refine wp_sub [0, 1] (ls' := [(0, jR a0), (1, jI a1)]) rfl ?_
            exact k
          · replace k := k.2 q
            refine wp_iload_n 3 dX11_wants_171 rfl ?_
            refine wp_bipush dX11_wants_172 ⟨by decide, by decide⟩ ?_
            refine wp_icmp_eq 195 dX11_wants_174 rfl (fun q => ?_) (fun q => ?_)
            · replace k := k.1 q
              refine wp_sub [0, 1] (ls' := [(0, jR a0), (1, jI a1)]) rfl ?_
              exact k
            · replace k := k.2 q
              refine wp_iload_n 3 dX11_wants_177 rfl ?_
              refine wp_bipush dX11_wants_178 ⟨by decide, by decide⟩ ?_
              refine wp_icmp_eq 195 dX11_wants_180 rfl (fun q => ?_) (fun q => ?_)
              · replace k := k.1 q
                refine wp_sub [0, 1] (ls' := [(0, jR a0), (1, jI a1)]) rfl ?_
                exact k
              · replace k := k.2 q
                refine wp_iload_n 3 dX11_wants_183 rfl ?_
                refine wp_bipush dX11_wants_184 ⟨by decide, by decide⟩ ?_
                refine wp_icmp_lt 217 dX11_wants_186 rfl (fun q => ?_) (fun q => ?_)
                · replace k := k.1 q
                  refine wp_sub [0, 1, 3] (ls' := [(0, jR a0), (1, jI a1), (3, jI (hA h (hR h 801 a0) a2))]) rfl ?_
                  exact k
                · replace k := k.2 q
                  refine wp_iload_n 3 dX11_wants_189 rfl ?_
                  refine wp_bipush dX11_wants_190 ⟨by decide, by decide⟩ ?_
                  refine wp_icmp_gt 217 dX11_wants_192 rfl (fun q => ?_) (fun q => ?_)
                  · replace k := k.1 q
                    refine wp_sub [0, 1, 3] (ls' := [(0, jR a0), (1, jI a1), (3, jI (hA h (hR h 801 a0) a2))]) rfl ?_
                    exact k
                  · replace k := k.2 q
                    refine wp_sub [0, 1] (ls' := [(0, jR a0), (1, jI a1)]) rfl ?_
                    exact k
        · replace k := k.2 q
          refine wp_aload_n 0 dX11_wants_149 rfl ?_
          refine wp_iload_n 1 dX11_wants_150 rfl ?_
          refine wp_iconst dX11_wants_151 ⟨by decide, by decide⟩ ?_
          refine wp_iconst dX11_wants_152 ⟨by decide, by decide⟩ ?_
          refine wp_callV (ci := 8) (y' := mX11_has) (st := []) [jI a1, jI 2, jI 2] rfl rfl rfl fX11_has kX11_354 nX11_has dX11_wants_153 (Nat.le_of_ble_eq_true rfl) c1 ?_
          refine jCall.mono k (fun o h153 k => ?_)
          obtain ⟨v153, e, k⟩ := k
          subst e
          show jWp (d + 1) mX11_wants 156 [(0, jR a0), (1, jI a1), (2, jI a2), (3, jI (hA h (hR h 801 a0) a2))] [jI v153] h153 Q
          refine wp_if_ne 163 dX11_wants_156 rfl (fun q => ?_) (fun q => ?_)
          · replace k := k.1 q
            refine wp_iconst dX11_wants_163 ⟨by decide, by decide⟩ ?_
            refine wp_sub [] (ls' := []) rfl ?_
            exact k
          · replace k := k.2 q
            refine wp_iconst dX11_wants_159 ⟨by decide, by decide⟩ ?_
            refine wp_goto 164 dX11_wants_160 rfl ?_
            refine wp_sub [] (ls' := []) rfl ?_
            exact k
      · replace k := k.2 q
        refine wp_aload_n 0 dX11_wants_136 rfl ?_
        refine wp_iload_n 1 dX11_wants_137 rfl ?_
        refine wp_iconst dX11_wants_138 ⟨by decide, by decide⟩ ?_
        refine wp_iconst dX11_wants_139 ⟨by decide, by decide⟩ ?_
        refine wp_callV (ci := 8) (y' := mX11_has) (st := []) [jI a1, jI 2, jI 2] rfl rfl rfl fX11_has kX11_354 nX11_has dX11_wants_140 (Nat.le_of_ble_eq_true rfl) c1 ?_
        refine jCall.mono k (fun o h140 k => ?_)
        obtain ⟨v140, e, k⟩ := k
        subst e
        show jWp (d + 1) mX11_wants 143 [(0, jR a0), (1, jI a1), (2, jI a2), (3, jI (hA h (hR h 801 a0) a2))] [jI v140] h140 Q
        have c9 := k.1
        replace k := k.2
        exact wp_zreturn dX11_wants_143 rfl c9.1 c9.2 k
    · replace k := k.2 q
      refine wp_aload_n 0 dX11_wants_121 rfl ?_
      refine wp_iload_n 1 dX11_wants_122 rfl ?_
      refine wp_bipush dX11_wants_123 ⟨by decide, by decide⟩ ?_
      refine wp_iconst dX11_wants_125 ⟨by decide, by decide⟩ ?_
      refine wp_callV (ci := 8) (y' := mX11_has) (st := []) [jI a1, jI 37, jI 2] rfl rfl rfl fX11_has kX11_354 nX11_has dX11_wants_126 (Nat.le_of_ble_eq_true rfl) c1 ?_
      refine jCall.mono k (fun o h126 k => ?_)
      obtain ⟨v126, e, k⟩ := k
      subst e
      show jWp (d + 1) mX11_wants 129 [(0, jR a0), (1, jI a1), (2, jI a2), (3, jI (hA h (hR h 801 a0) a2))] [jI v126] h126 Q
      have c10 := k.1
      replace k := k.2
      exact wp_zreturn dX11_wants_129 rfl c10.1 c10.2 k
  · replace k := k.2 q
    refine wp_iload_n 3 dX11_wants_16 rfl ?_
    refine wp_bipush dX11_wants_17 ⟨by decide, by decide⟩ ?_
    have c11 := k.1
    replace k := k.2
    refine wp_idiv dX11_wants_19 c11 (by decide) ?_
    refine wp_istore [1, 2, 0] (ls' := [(0, jR a0), (1, jI a1), (4, jI ((hA h (hR h 801 a0) a2) / 10))]) dX11_wants_20 (by decide) rfl ?_
    refine wp_iload 2 dX11_wants_22 rfl ?_
    refine wp_sipush dX11_wants_24 ⟨by decide, by decide⟩ ?_
    refine wp_icmp_lt 44 dX11_wants_27 rfl (fun q => ?_) (fun q => ?_)
    · replace k := k.1 q
      exact k
    · replace k := k.2 q
      refine wp_iload 2 dX11_wants_30 rfl ?_
      refine wp_sipush dX11_wants_32 ⟨by decide, by decide⟩ ?_
      refine wp_icmp_gt 44 dX11_wants_35 rfl (fun q => ?_) (fun q => ?_)
      · replace k := k.1 q
        exact k
      · replace k := k.2 q
        refine wp_aload_n 0 dX11_wants_38 rfl ?_
        refine wp_iload_n 1 dX11_wants_39 rfl ?_
        refine wp_callV (ci := 8) (y' := mX11_isItem) (st := []) [jI a1] rfl rfl rfl fX11_isItem kX11_358 nX11_isItem dX11_wants_40 (Nat.le_of_ble_eq_true rfl) c1 ?_
        refine jCall.mono k (fun o h40 k => ?_)
        obtain ⟨v40, e, k⟩ := k
        subst e
        show jWp (d + 1) mX11_wants 43 [(0, jR a0), (1, jI a1), (4, jI ((hA h (hR h 801 a0) a2) / 10))] [jI v40] h40 Q
        have c12 := k.1
        replace k := k.2
        exact wp_zreturn dX11_wants_43 rfl c12.1 c12.2 k
theorem bX11_wants_195 {d : Nat} {h : jH} {Q : jO → jH → Prop} {a0 : Nat} {a1 : Int} (k : jOK h → j32 a1 → hK h a0 = 9 ∧ jCall d mX11_isItem [jR a0, jI a1] h (fun o h197 => ∃ v197, o = .inl (some (jI v197)) ∧ ((v197 ≠ 0 → jWp (d + 1) mX11_wants 211 [] [] h197 Q) ∧ (v197 = 0 → hK h197 a0 = 9 ∧ jCall d mX11_isPiece [jR a0, jI a1] h197 (fun o h205 => ∃ v205, o = .inl (some (jI v205)) ∧ ((v205 = 0 → jWp (d + 1) mX11_wants 216 [] [jI 0] h205 Q) ∧ (¬ (v205 = 0) → jWp (d + 1) mX11_wants 211 [] [] h205 Q))))))) : jWp (d + 1) mX11_wants 195 [(0, jR a0), (1, jI a1)] [] h Q := by
  refine jw_ok (fun ok q => ?_)
  replace k := k ok (q _ (.tail _ (.head _)))
  refine wp_aload_n 0 dX11_wants_195 rfl ?_
  refine wp_iload_n 1 dX11_wants_196 rfl ?_
  have c1 := k.1
  replace k := k.2
  refine wp_callV (ci := 8) (y' := mX11_isItem) (st := []) [jI a1] rfl rfl rfl fX11_isItem kX11_358 nX11_isItem dX11_wants_197 (Nat.le_of_ble_eq_true rfl) c1 ?_
  refine jCall.mono k (fun o h197 k => ?_)
  obtain ⟨v197, e, k⟩ := k
  subst e
  show jWp (d + 1) mX11_wants 200 [(0, jR a0), (1, jI a1)] [jI v197] h197 Q
  refine wp_if_ne 211 dX11_wants_200 rfl (fun q => ?_) (fun q => ?_)
  · replace k := k.1 q
    refine wp_sub [] (ls' := []) rfl ?_
    exact k
  · replace k := k.2 q
    refine wp_aload_n 0 dX11_wants_203 rfl ?_
    refine wp_iload_n 1 dX11_wants_204 rfl ?_
    have c2 := k.1
    replace k := k.2
    refine wp_callV (ci := 8) (y' := mX11_isPiece) (st := []) [jI a1] rfl rfl rfl fX11_isPiece kX11_361 nX11_isPiece dX11_wants_205 (Nat.le_of_ble_eq_true rfl) c2 ?_
    refine jCall.mono k (fun o h205 k => ?_)
    obtain ⟨v205, e, k⟩ := k
    subst e
    show jWp (d + 1) mX11_wants 208 [(0, jR a0), (1, jI a1)] [jI v205] h205 Q
    refine wp_if_eq 215 dX11_wants_208 rfl (fun q => ?_) (fun q => ?_)
    · replace k := k.1 q
      refine wp_iconst dX11_wants_215 ⟨by decide, by decide⟩ ?_
      refine wp_sub [] (ls' := []) rfl ?_
      exact k
    · replace k := k.2 q
      refine wp_sub [] (ls' := []) rfl ?_
      exact k
theorem bX11_wants_217 {d : Nat} {h : jH} {Q : jO → jH → Prop} {a0 : Nat} {a1 : Int} {a3 : Int} (k : jOK h → j32 a1 → j32 a3 → ((a3 ≠ 21 → ((a3 ≠ 420 → ((a3 ≠ 8018 → Q (.inl (some (jI 1))) h) ∧ (a3 = 8018 → hK h a0 = 9 ∧ jCall d mX11_has [jR a0, jI a1, jI 8017, jI 4] h (fun o h289 => ∃ v289, o = .inl (some (jI v289)) ∧ ((v289 ≠ 0 → jWp (d + 1) mX11_wants 300 [] [jI 0] h289 Q) ∧ (v289 = 0 → jWp (d + 1) mX11_wants 300 [] [jI 1] h289 Q)))))) ∧ (a3 = 420 → hK h a0 = 9 ∧ jCall d mX11_has [jR a0, jI a1, jI 421, jI 3] h (fun o h264 => ∃ v264, o = .inl (some (jI v264)) ∧ ((v264 ≠ 0 → jWp (d + 1) mX11_wants 275 [] [jI 0] h264 Q) ∧ (v264 = 0 → jWp (d + 1) mX11_wants 275 [] [jI 1] h264 Q)))))) ∧ (a3 = 21 → hK h a0 = 9 ∧ jCall d mX11_has [jR a0, jI a1, jI 1, jI 2] h (fun o h227 => ∃ v227, o = .inl (some (jI v227)) ∧ ((v227 ≠ 0 → jWp (d + 1) mX11_wants 245 [] [] h227 Q) ∧ (v227 = 0 → hK h227 a0 = 9 ∧ jCall d mX11_has [jR a0, jI a1, jI 8006, jI 4] h227 (fun o h239 => ∃ v239, o = .inl (some (jI v239)) ∧ ((v239 = 0 → jWp (d + 1) mX11_wants 250 [] [jI 0] h239 Q) ∧ (¬ (v239 = 0) → jWp (d + 1) mX11_wants 245 [] [] h239 Q))))))))) : jWp (d + 1) mX11_wants 217 [(0, jR a0), (1, jI a1), (3, jI a3)] [] h Q := by
  refine jw_ok (fun ok q => ?_)
  replace k := k ok (q _ (.tail _ (.head _))) (q _ (.tail _ (.tail _ (.head _))))
  refine wp_iload_n 2 dX11_wants_217 rfl ?_
  refine wp_bipush dX11_wants_218 ⟨by decide, by decide⟩ ?_
  refine wp_icmp_ne 251 dX11_wants_220 rfl (fun q => ?_) (fun q => ?_)
  · replace k := k.1 q
    refine wp_iload_n 2 dX11_wants_251 rfl ?_
    refine wp_sipush dX11_wants_252 ⟨by decide, by decide⟩ ?_
    refine wp_icmp_ne 276 dX11_wants_255 rfl (fun q => ?_) (fun q => ?_)
    · replace k := k.1 q
      refine wp_iload_n 2 dX11_wants_276 rfl ?_
      refine wp_sipush dX11_wants_277 ⟨by decide, by decide⟩ ?_
      refine wp_icmp_ne 301 dX11_wants_280 rfl (fun q => ?_) (fun q => ?_)
      · replace k := k.1 q
        refine wp_iconst dX11_wants_301 ⟨by decide, by decide⟩ ?_
        exact wp_zreturn dX11_wants_302 rfl (by decide) (by decide) k
      · replace k := k.2 q
        refine wp_aload_n 0 dX11_wants_283 rfl ?_
        refine wp_iload_n 1 dX11_wants_284 rfl ?_
        refine wp_sipush dX11_wants_285 ⟨by decide, by decide⟩ ?_
        refine wp_iconst dX11_wants_288 ⟨by decide, by decide⟩ ?_
        have c1 := k.1
        replace k := k.2
        refine wp_callV (ci := 8) (y' := mX11_has) (st := []) [jI a1, jI 8017, jI 4] rfl rfl rfl fX11_has kX11_354 nX11_has dX11_wants_289 (Nat.le_of_ble_eq_true rfl) c1 ?_
        refine jCall.mono k (fun o h289 k => ?_)
        obtain ⟨v289, e, k⟩ := k
        subst e
        show jWp (d + 1) mX11_wants 292 [(0, jR a0), (1, jI a1), (3, jI a3)] [jI v289] h289 Q
        refine wp_if_ne 299 dX11_wants_292 rfl (fun q => ?_) (fun q => ?_)
        · replace k := k.1 q
          refine wp_iconst dX11_wants_299 ⟨by decide, by decide⟩ ?_
          refine wp_sub [] (ls' := []) rfl ?_
          exact k
        · replace k := k.2 q
          refine wp_iconst dX11_wants_295 ⟨by decide, by decide⟩ ?_
          refine wp_goto 300 dX11_wants_296 rfl ?_
          refine wp_sub [] (ls' := []) rfl ?_
          exact k
    · replace k := k.2 q
      refine wp_aload_n 0 dX11_wants_258 rfl ?_
      refine wp_iload_n 1 dX11_wants_259 rfl ?_
      refine wp_sipush dX11_wants_260 ⟨by decide, by decide⟩ ?_
      refine wp_iconst dX11_wants_263 ⟨by decide, by decide⟩ ?_
      have c2 := k.1
      replace k := k.2
      refine wp_callV (ci := 8) (y' := mX11_has) (st := []) [jI a1, jI 421, jI 3] rfl rfl rfl fX11_has kX11_354 nX11_has dX11_wants_264 (Nat.le_of_ble_eq_true rfl) c2 ?_
      refine jCall.mono k (fun o h264 k => ?_)
      obtain ⟨v264, e, k⟩ := k
      subst e
      show jWp (d + 1) mX11_wants 267 [(0, jR a0), (1, jI a1), (3, jI a3)] [jI v264] h264 Q
      refine wp_if_ne 274 dX11_wants_267 rfl (fun q => ?_) (fun q => ?_)
      · replace k := k.1 q
        refine wp_iconst dX11_wants_274 ⟨by decide, by decide⟩ ?_
        refine wp_sub [] (ls' := []) rfl ?_
        exact k
      · replace k := k.2 q
        refine wp_iconst dX11_wants_270 ⟨by decide, by decide⟩ ?_
        refine wp_goto 275 dX11_wants_271 rfl ?_
        refine wp_sub [] (ls' := []) rfl ?_
        exact k
  · replace k := k.2 q
    refine wp_aload_n 0 dX11_wants_223 rfl ?_
    refine wp_iload_n 1 dX11_wants_224 rfl ?_
    refine wp_iconst dX11_wants_225 ⟨by decide, by decide⟩ ?_
    refine wp_iconst dX11_wants_226 ⟨by decide, by decide⟩ ?_
    have c3 := k.1
    replace k := k.2
    refine wp_callV (ci := 8) (y' := mX11_has) (st := []) [jI a1, jI 1, jI 2] rfl rfl rfl fX11_has kX11_354 nX11_has dX11_wants_227 (Nat.le_of_ble_eq_true rfl) c3 ?_
    refine jCall.mono k (fun o h227 k => ?_)
    obtain ⟨v227, e, k⟩ := k
    subst e
    show jWp (d + 1) mX11_wants 230 [(0, jR a0), (1, jI a1), (3, jI a3)] [jI v227] h227 Q
    refine wp_if_ne 245 dX11_wants_230 rfl (fun q => ?_) (fun q => ?_)
    · replace k := k.1 q
      refine wp_sub [] (ls' := []) rfl ?_
      exact k
    · replace k := k.2 q
      refine wp_aload_n 0 dX11_wants_233 rfl ?_
      refine wp_iload_n 1 dX11_wants_234 rfl ?_
      refine wp_sipush dX11_wants_235 ⟨by decide, by decide⟩ ?_
      refine wp_iconst dX11_wants_238 ⟨by decide, by decide⟩ ?_
      have c4 := k.1
      replace k := k.2
      refine wp_callV (ci := 8) (y' := mX11_has) (st := []) [jI a1, jI 8006, jI 4] rfl rfl rfl fX11_has kX11_354 nX11_has dX11_wants_239 (Nat.le_of_ble_eq_true rfl) c4 ?_
      refine jCall.mono k (fun o h239 k => ?_)
      obtain ⟨v239, e, k⟩ := k
      subst e
      show jWp (d + 1) mX11_wants 242 [(0, jR a0), (1, jI a1), (3, jI a3)] [jI v239] h239 Q
      refine wp_if_eq 249 dX11_wants_242 rfl (fun q => ?_) (fun q => ?_)
      · replace k := k.1 q
        refine wp_iconst dX11_wants_249 ⟨by decide, by decide⟩ ?_
        refine wp_sub [] (ls' := []) rfl ?_
        exact k
      · replace k := k.2 q
        refine wp_sub [] (ls' := []) rfl ?_
        exact k
theorem bX11_wants_164 {d : Nat} {h : jH} {Q : jO → jH → Prop} {s0 : Int} (k : jOK h → (0 ≤ s0 ∧ s0 ≤ 1) ∧ Q (.inl (some (jI s0))) h) : jWp (d + 1) mX11_wants 164 [] [jI s0] h Q := by
  refine jw_ok (fun ok q => ?_)
  replace k := k ok 
  have c1 := k.1
  replace k := k.2
  exact wp_zreturn dX11_wants_164 rfl c1.1 c1.2 k
theorem bX11_wants_44 {d : Nat} {h : jH} {Q : jO → jH → Prop} {a0 : Nat} {a1 : Int} {a4 : Int} (k : jOK h → j32 a1 → j32 a4 → ((a4 = 392 → jWp (d + 1) mX11_wants 60 [(0, jR a0), (1, jI a1)] [] h Q) ∧ (¬ (a4 = 392) → ((a4 ≠ 393 → ((a4 = 390 → jWp (d + 1) mX11_wants 84 [(0, jR a0), (1, jI a1)] [] h Q) ∧ (¬ (a4 = 390) → ((a4 ≠ 391 → Q (.inl (some (jI 1))) h) ∧ (a4 = 391 → jWp (d + 1) mX11_wants 84 [(0, jR a0), (1, jI a1)] [] h Q))))) ∧ (a4 = 393 → jWp (d + 1) mX11_wants 60 [(0, jR a0), (1, jI a1)] [] h Q))))) : jWp (d + 1) mX11_wants 44 [(0, jR a0), (1, jI a1), (4, jI a4)] [] h Q := by
  refine jw_ok (fun ok q => ?_)
  replace k := k ok (q _ (.tail _ (.head _))) (q _ (.tail _ (.tail _ (.head _))))
  refine wp_iload 2 dX11_wants_44 rfl ?_
  refine wp_sipush dX11_wants_46 ⟨by decide, by decide⟩ ?_
  refine wp_icmp_eq 60 dX11_wants_49 rfl (fun q => ?_) (fun q => ?_)
  · replace k := k.1 q
    refine wp_sub [0, 1] (ls' := [(0, jR a0), (1, jI a1)]) rfl ?_
    exact k
  · replace k := k.2 q
    refine wp_iload 2 dX11_wants_52 rfl ?_
    refine wp_sipush dX11_wants_54 ⟨by decide, by decide⟩ ?_
    refine wp_icmp_ne 68 dX11_wants_57 rfl (fun q => ?_) (fun q => ?_)
    · replace k := k.1 q
      refine wp_iload 2 dX11_wants_68 rfl ?_
      refine wp_sipush dX11_wants_70 ⟨by decide, by decide⟩ ?_
      refine wp_icmp_eq 84 dX11_wants_73 rfl (fun q => ?_) (fun q => ?_)
      · replace k := k.1 q
        refine wp_sub [0, 1] (ls' := [(0, jR a0), (1, jI a1)]) rfl ?_
        exact k
      · replace k := k.2 q
        refine wp_iload 2 dX11_wants_76 rfl ?_
        refine wp_sipush dX11_wants_78 ⟨by decide, by decide⟩ ?_
        refine wp_icmp_ne 114 dX11_wants_81 rfl (fun q => ?_) (fun q => ?_)
        · replace k := k.1 q
          refine wp_iconst dX11_wants_114 ⟨by decide, by decide⟩ ?_
          exact wp_zreturn dX11_wants_115 rfl (by decide) (by decide) k
        · replace k := k.2 q
          refine wp_sub [0, 1] (ls' := [(0, jR a0), (1, jI a1)]) rfl ?_
          exact k
    · replace k := k.2 q
      refine wp_sub [0, 1] (ls' := [(0, jR a0), (1, jI a1)]) rfl ?_
      exact k
theorem bX11_wants_211 {d : Nat} {h : jH} {Q : jO → jH → Prop}  (k : jOK h → jWp (d + 1) mX11_wants 216 [] [jI 1] h Q) : jWp (d + 1) mX11_wants 211 [] [] h Q := by
  refine jw_ok (fun ok q => ?_)
  replace k := k ok 
  refine wp_iconst dX11_wants_211 ⟨by decide, by decide⟩ ?_
  refine wp_goto 216 dX11_wants_212 rfl ?_
  exact k
theorem bX11_wants_216 {d : Nat} {h : jH} {Q : jO → jH → Prop} {s0 : Int} (k : jOK h → (0 ≤ s0 ∧ s0 ≤ 1) ∧ Q (.inl (some (jI s0))) h) : jWp (d + 1) mX11_wants 216 [] [jI s0] h Q := by
  refine jw_ok (fun ok q => ?_)
  replace k := k ok 
  have c1 := k.1
  replace k := k.2
  exact wp_zreturn dX11_wants_216 rfl c1.1 c1.2 k
theorem bX11_wants_300 {d : Nat} {h : jH} {Q : jO → jH → Prop} {s0 : Int} (k : jOK h → (0 ≤ s0 ∧ s0 ≤ 1) ∧ Q (.inl (some (jI s0))) h) : jWp (d + 1) mX11_wants 300 [] [jI s0] h Q := by
  refine jw_ok (fun ok q => ?_)
  replace k := k ok 
  have c1 := k.1
  replace k := k.2
  exact wp_zreturn dX11_wants_300 rfl c1.1 c1.2 k
theorem bX11_wants_275 {d : Nat} {h : jH} {Q : jO → jH → Prop} {s0 : Int} (k : jOK h → (0 ≤ s0 ∧ s0 ≤ 1) ∧ Q (.inl (some (jI s0))) h) : jWp (d + 1) mX11_wants 275 [] [jI s0] h Q := by
  refine jw_ok (fun ok q => ?_)
  replace k := k ok 
  have c1 := k.1
  replace k := k.2
  exact wp_zreturn dX11_wants_275 rfl c1.1 c1.2 k
theorem bX11_wants_245 {d : Nat} {h : jH} {Q : jO → jH → Prop}  (k : jOK h → jWp (d + 1) mX11_wants 250 [] [jI 1] h Q) : jWp (d + 1) mX11_wants 245 [] [] h Q := by
  refine jw_ok (fun ok q => ?_)
  replace k := k ok 
  refine wp_iconst dX11_wants_245 ⟨by decide, by decide⟩ ?_
  refine wp_goto 250 dX11_wants_246 rfl ?_
  exact k
theorem bX11_wants_250 {d : Nat} {h : jH} {Q : jO → jH → Prop} {s0 : Int} (k : jOK h → (0 ≤ s0 ∧ s0 ≤ 1) ∧ Q (.inl (some (jI s0))) h) : jWp (d + 1) mX11_wants 250 [] [jI s0] h Q := by
  refine jw_ok (fun ok q => ?_)
  replace k := k ok 
  have c1 := k.1
  replace k := k.2
  exact wp_zreturn dX11_wants_250 rfl c1.1 c1.2 k
theorem bX11_wants_60 {d : Nat} {h : jH} {Q : jO → jH → Prop} {a0 : Nat} {a1 : Int} (k : jOK h → j32 a1 → hK h a0 = 9 ∧ jCall d mX11_has [jR a0, jI a1, jI 1, jI 2] h (fun o h64 => ∃ v64, o = .inl (some (jI v64)) ∧ (0 ≤ v64 ∧ v64 ≤ 1) ∧ Q (.inl (some (jI v64))) h64)) : jWp (d + 1) mX11_wants 60 [(0, jR a0), (1, jI a1)] [] h Q := by
  refine jw_ok (fun ok q => ?_)
  replace k := k ok (q _ (.tail _ (.head _)))
  refine wp_aload_n 0 dX11_wants_60 rfl ?_
  refine wp_iload_n 1 dX11_wants_61 rfl ?_
  refine wp_iconst dX11_wants_62 ⟨by decide, by decide⟩ ?_
  refine wp_iconst dX11_wants_63 ⟨by decide, by decide⟩ ?_
  have c1 := k.1
  replace k := k.2
  refine wp_callV (ci := 8) (y' := mX11_has) (st := []) [jI a1, jI 1, jI 2] rfl rfl rfl fX11_has kX11_354 nX11_has dX11_wants_64 (Nat.le_of_ble_eq_true rfl) c1 ?_
  refine jCall.mono k (fun o h64 k => ?_)
  obtain ⟨v64, e, k⟩ := k
  subst e
  show jWp (d + 1) mX11_wants 67 [(0, jR a0), (1, jI a1)] [jI v64] h64 Q
  have c2 := k.1
  replace k := k.2
  exact wp_zreturn dX11_wants_67 rfl c2.1 c2.2 k
theorem bX11_wants_84 {d : Nat} {h : jH} {Q : jO → jH → Prop} {a0 : Nat} {a1 : Int} (k : jOK h → j32 a1 → hK h a0 = 9 ∧ jCall d mX11_has [jR a0, jI a1, jI 255, jI 3] h (fun o h90 => ∃ v90, o = .inl (some (jI v90)) ∧ ((v90 ≠ 0 → jWp (d + 1) mX11_wants 108 [] [] h90 Q) ∧ (v90 = 0 → hK h90 a0 = 9 ∧ jCall d mX11_has [jR a0, jI a1, jI 8020, jI 4] h90 (fun o h102 => ∃ v102, o = .inl (some (jI v102)) ∧ ((v102 = 0 → jWp (d + 1) mX11_wants 113 [] [jI 0] h102 Q) ∧ (¬ (v102 = 0) → jWp (d + 1) mX11_wants 108 [] [] h102 Q))))))) : jWp (d + 1) mX11_wants 84 [(0, jR a0), (1, jI a1)] [] h Q := by
  refine jw_ok (fun ok q => ?_)
  replace k := k ok (q _ (.tail _ (.head _)))
  refine wp_aload_n 0 dX11_wants_84 rfl ?_
  refine wp_iload_n 1 dX11_wants_85 rfl ?_
  refine wp_sipush dX11_wants_86 ⟨by decide, by decide⟩ ?_
  refine wp_iconst dX11_wants_89 ⟨by decide, by decide⟩ ?_
  have c1 := k.1
  replace k := k.2
  refine wp_callV (ci := 8) (y' := mX11_has) (st := []) [jI a1, jI 255, jI 3] rfl rfl rfl fX11_has kX11_354 nX11_has dX11_wants_90 (Nat.le_of_ble_eq_true rfl) c1 ?_
  refine jCall.mono k (fun o h90 k => ?_)
  obtain ⟨v90, e, k⟩ := k
  subst e
  show jWp (d + 1) mX11_wants 93 [(0, jR a0), (1, jI a1)] [jI v90] h90 Q
  refine wp_if_ne 108 dX11_wants_93 rfl (fun q => ?_) (fun q => ?_)
  · replace k := k.1 q
    refine wp_sub [] (ls' := []) rfl ?_
    exact k
  · replace k := k.2 q
    refine wp_aload_n 0 dX11_wants_96 rfl ?_
    refine wp_iload_n 1 dX11_wants_97 rfl ?_
    refine wp_sipush dX11_wants_98 ⟨by decide, by decide⟩ ?_
    refine wp_iconst dX11_wants_101 ⟨by decide, by decide⟩ ?_
    have c2 := k.1
    replace k := k.2
    refine wp_callV (ci := 8) (y' := mX11_has) (st := []) [jI a1, jI 8020, jI 4] rfl rfl rfl fX11_has kX11_354 nX11_has dX11_wants_102 (Nat.le_of_ble_eq_true rfl) c2 ?_
    refine jCall.mono k (fun o h102 k => ?_)
    obtain ⟨v102, e, k⟩ := k
    subst e
    show jWp (d + 1) mX11_wants 105 [(0, jR a0), (1, jI a1)] [jI v102] h102 Q
    refine wp_if_eq 112 dX11_wants_105 rfl (fun q => ?_) (fun q => ?_)
    · replace k := k.1 q
      refine wp_iconst dX11_wants_112 ⟨by decide, by decide⟩ ?_
      refine wp_sub [] (ls' := []) rfl ?_
      exact k
    · replace k := k.2 q
      refine wp_sub [] (ls' := []) rfl ?_
      exact k
theorem bX11_wants_108 {d : Nat} {h : jH} {Q : jO → jH → Prop}  (k : jOK h → jWp (d + 1) mX11_wants 113 [] [jI 1] h Q) : jWp (d + 1) mX11_wants 108 [] [] h Q := by
  refine jw_ok (fun ok q => ?_)
  replace k := k ok 
  refine wp_iconst dX11_wants_108 ⟨by decide, by decide⟩ ?_
  refine wp_goto 113 dX11_wants_109 rfl ?_
  exact k
theorem bX11_wants_113 {d : Nat} {h : jH} {Q : jO → jH → Prop} {s0 : Int} (k : jOK h → (0 ≤ s0 ∧ s0 ≤ 1) ∧ Q (.inl (some (jI s0))) h) : jWp (d + 1) mX11_wants 113 [] [jI s0] h Q := by
  refine jw_ok (fun ok q => ?_)
  replace k := k ok 
  have c1 := k.1
  replace k := k.2
  exact wp_zreturn dX11_wants_113 rfl c1.1 c1.2 k
theorem bX11_isTwice {d : Nat} {h : jH} {Q : jO → jH → Prop} {a0 : Nat} {a1 : Int} {a2 : Int} (k : jOK h → j32 a1 → j32 a2 → jWp (d + 1) mX11_isTwice 2 [(0, jR a0), (1, jI a1), (2, jI a2), (3, jI 0)] [] h Q) : jCall (d + 1) mX11_isTwice [jR a0, jI a1, jI a2] h Q := by
  refine jCall_of plX11 (Nat.le_of_ble_eq_true rfl) ?_
  show jWp (d + 1) mX11_isTwice 0 [(0, jR a0), (1, jI a1), (2, jI a2)] [] h Q
  refine jw_ok (fun ok q => ?_)
  replace k := k ok (q _ (.tail _ (.head _))) (q _ (.tail _ (.tail _ (.head _))))
  refine wp_iconst dX11_isTwice_0 ⟨by decide, by decide⟩ ?_
  refine wp_istore_n [1, 2, 3, 0] (ls' := [(0, jR a0), (1, jI a1), (2, jI a2), (3, jI 0)]) dX11_isTwice_1 (by decide) rfl ?_
  exact k
theorem bX11_isTwice_2 {d : Nat} {h : jH} {Q : jO → jH → Prop} {a0 : Nat} {a1 : Int} {a2 : Int} {a3 : Int} (k : jOK h → j32 a1 → j32 a2 → j32 a3 → ((a2 ≤ a3 → Q (.inl (some (jI 0))) h) ∧ (¬ (a2 ≤ a3) → hK h a0 = 9 ∧ j32 (20 * a1) ∧ j32 ((20 * a1) + a3) ∧ hK h (hR h 814 a0) = 10 ∧ 0 ≤ ((20 * a1) + a3) ∧ ((20 * a1) + a3) < hN h (hR h 814 a0) ∧ (j32 (hA h (hR h 814 a0) ((20 * a1) + a3)) → jCall d mX11_kin [jR a0, jI (hA h (hR h 814 a0) ((20 * a1) + a3))] h (fun o h19 => ∃ v19, o = .inl (some (jI v19)) ∧ hK h19 a0 = 9 ∧ j32 (20 * a1) ∧ j32 ((20 * a1) + a2) ∧ hK h19 (hR h19 814 a0) = 10 ∧ 0 ≤ ((20 * a1) + a2) ∧ ((20 * a1) + a2) < hN h19 (hR h19 814 a0) ∧ (j32 (hA h19 (hR h19 814 a0) ((20 * a1) + a2)) → jCall d mX11_kin [jR a0, jI (hA h19 (hR h19 814 a0) ((20 * a1) + a2))] h19 (fun o h34 => ∃ v34, o = .inl (some (jI v34)) ∧ ((v19 ≠ v34 → j32 (a3 + 1) ∧ jWp (d + 1) mX11_isTwice 2 [(0, jR a0), (1, jI a1), (2, jI a2), (3, jI (a3 + 1))] [] h34 Q) ∧ (v19 = v34 → Q (.inl (some (jI 1))) h34))))))))) : jWp (d + 1) mX11_isTwice 2 [(0, jR a0), (1, jI a1), (2, jI a2), (3, jI a3)] [] h Q := by
  refine jw_ok (fun ok q => ?_)
  replace k := k ok (q _ (.tail _ (.head _))) (q _ (.tail _ (.tail _ (.head _)))) (q _ (.tail _ (.tail _ (.tail _ (.head _)))))
  refine wp_iload_n 3 dX11_isTwice_2 rfl ?_
  refine wp_iload_n 2 dX11_isTwice_3 rfl ?_
  refine wp_icmp_ge 48 dX11_isTwice_4 rfl (fun q => ?_) (fun q => ?_)
  · replace k := k.1 q
    refine wp_iconst dX11_isTwice_48 ⟨by decide, by decide⟩ ?_
    exact wp_zreturn dX11_isTwice_49 rfl (by decide) (by decide) k
  · replace k := k.2 q
    refine wp_aload_n 0 dX11_isTwice_7 rfl ?_
    refine wp_aload_n 0 dX11_isTwice_8 rfl ?_
    have c1 := k.1
    replace k := k.2
    refine wp_getR (ci := 8) (j := 14) rfl (by decide) gX11_54 dX11_isTwice_9 c1 rfl ?_
    refine wp_bipush dX11_isTwice_12 ⟨by decide, by decide⟩ ?_
    refine wp_iload_n 1 dX11_isTwice_14 rfl ?_
    have c2 := k.1
    replace k := k.2
    refine wp_imul dX11_isTwice_15 c2 ?_
    refine wp_iload_n 3 dX11_isTwice_16 rfl ?_
    have c3 := k.1
    replace k := k.2
    refine wp_iadd dX11_isTwice_17 c3 ?_
    have c4 := k.1
    replace k := k.2
    have c5 := k.1
    replace k := k.2
    have c6 := k.1
    replace k := k.2
    refine wp_iaload dX11_isTwice_18 c4 c5 c6 (fun q => ?_)
    have f7 := q
    replace k := k q
    refine wp_callV (ci := 8) (y' := mX11_kin) (st := []) [jI (hA h (hR h 814 a0) ((20 * a1) + a3))] rfl rfl rfl fX11_kin kX11_364 nX11_kin dX11_isTwice_19 (Nat.le_of_ble_eq_true rfl) c1 ?_
    refine jCall.mono k (fun o h19 k => ?_)
    obtain ⟨v19, e, k⟩ := k
    subst e
    show jWp (d + 1) mX11_isTwice 22 [(0, jR a0), (1, jI a1), (2, jI a2), (3, jI a3)] [jI v19] h19 Q
    refine wp_aload_n 0 dX11_isTwice_22 rfl ?_
    refine wp_aload_n 0 dX11_isTwice_23 rfl ?_
    have c8 := k.1
    replace k := k.2
    refine wp_getR (ci := 8) (j := 14) rfl (by decide) gX11_54 dX11_isTwice_24 c8 rfl ?_
    refine wp_bipush dX11_isTwice_27 ⟨by decide, by decide⟩ ?_
    refine wp_iload_n 1 dX11_isTwice_29 rfl ?_
    have c9 := k.1
    replace k := k.2
    refine wp_imul dX11_isTwice_30 c9 ?_
    refine wp_iload_n 2 dX11_isTwice_31 rfl ?_
    have c10 := k.1
    replace k := k.2
    refine wp_iadd dX11_isTwice_32 c10 ?_
    have c11 := k.1
    replace k := k.2
    have c12 := k.1
    replace k := k.2
    have c13 := k.1
    replace k := k.2
    refine wp_iaload dX11_isTwice_33 c11 c12 c13 (fun q => ?_)
    have f14 := q
    replace k := k q
    refine wp_callV (ci := 8) (y' := mX11_kin) (st := [jI v19]) [jI (hA h19 (hR h19 814 a0) ((20 * a1) + a2))] rfl rfl rfl fX11_kin kX11_364 nX11_kin dX11_isTwice_34 (Nat.le_of_ble_eq_true rfl) c8 ?_
    refine jCall.mono k (fun o h34 k => ?_)
    obtain ⟨v34, e, k⟩ := k
    subst e
    show jWp (d + 1) mX11_isTwice 37 [(0, jR a0), (1, jI a1), (2, jI a2), (3, jI a3)] [jI v34, jI v19] h34 Q
    refine wp_icmp_ne 42 dX11_isTwice_37 rfl (fun q => ?_) (fun q => ?_)
    · replace k := k.1 q
      have c15 := k.1
      replace k := k.2
      refine wp_iinc 3 [1, 2, 3, 0] (ls' := [(0, jR a0), (1, jI a1), (2, jI a2), (3, jI (a3 + 1))]) dX11_isTwice_42 rfl c15 ⟨by decide, by decide⟩ (by decide) rfl ?_
      refine wp_goto 2 dX11_isTwice_45 rfl ?_
      exact k
    · replace k := k.2 q
      refine wp_iconst dX11_isTwice_40 ⟨by decide, by decide⟩ ?_
      exact wp_zreturn dX11_isTwice_41 rfl (by decide) (by decide) k
theorem bX11_together {d : Nat} {h : jH} {Q : jO → jH → Prop} {a0 : Nat} {a1 : Int} (k : jOK h → j32 a1 → jWp (d + 1) mX11_together 2 [(0, jR a0), (1, jI a1), (2, jI 0)] [] h Q) : jCall (d + 1) mX11_together [jR a0, jI a1] h Q := by
  refine jCall_of plX11 (Nat.le_of_ble_eq_true rfl) ?_
  show jWp (d + 1) mX11_together 0 [(0, jR a0), (1, jI a1)] [] h Q
  refine jw_ok (fun ok q => ?_)
  replace k := k ok (q _ (.tail _ (.head _)))
  refine wp_iconst dX11_together_0 ⟨by decide, by decide⟩ ?_
  refine wp_istore_n [1, 2, 0] (ls' := [(0, jR a0), (1, jI a1), (2, jI 0)]) dX11_together_1 (by decide) rfl ?_
  exact k
theorem bX11_together_2 {d : Nat} {h : jH} {Q : jO → jH → Prop} {a0 : Nat} {a1 : Int} {a2 : Int} (k : jOK h → j32 a1 → j32 a2 → hK h a0 = 9 ∧ hK h (hR h 813 a0) = 10 ∧ 0 ≤ (9 : Int) ∧ 9 < hN h (hR h 813 a0) ∧ (j32 (hA h (hR h 813 a0) 9) → (((hA h (hR h 813 a0) 9) ≤ a2 → Q (.inl (some (jI 1))) h) ∧ (¬ ((hA h (hR h 813 a0) 9) ≤ a2) → jCall d mX11_isTwice [jR a0, jI 9, jI a2] h (fun o h17 => ∃ v17, o = .inl (some (jI v17)) ∧ ((v17 = 0 → ((a1 = 0 → j32 (a2 + 1) ∧ jWp (d + 1) mX11_together 2 [(0, jR a0), (1, jI a1), (2, jI (a2 + 1))] [] h17 Q) ∧ (¬ (a1 = 0) → hK h17 a0 = 9 ∧ j32 (180 + a2) ∧ hK h17 (hR h17 814 a0) = 10 ∧ 0 ≤ (180 + a2) ∧ (180 + a2) < hN h17 (hR h17 814 a0) ∧ (j32 (hA h17 (hR h17 814 a0) (180 + a2)) → jCall d mX11_wants [jR a0, jI 9, jI (hA h17 (hR h17 814 a0) (180 + a2))] h17 (fun o h53 => ∃ v53, o = .inl (some (jI v53)) ∧ ((v53 ≠ 0 → j32 (a2 + 1) ∧ jWp (d + 1) mX11_together 2 [(0, jR a0), (1, jI a1), (2, jI (a2 + 1))] [] h53 Q) ∧ (v53 = 0 → hK h53 a0 = 9 ∧ hK h53 (hR h53 828 a0) = 10 ∧ 0 ≤ a2 ∧ a2 < hN h53 (hR h53 828 a0) ∧ (j32 (hA h53 (hR h53 828 a0) a2) → jCall d mX11_fault [jR a0, jI 8, jI (hA h53 (hR h53 828 a0) a2)] h53 (fun o h68 => ∃ v68, o = .inl (some (jI v68)) ∧ (0 ≤ v68 ∧ v68 ≤ 1) ∧ Q (.inl (some (jI v68))) h68))))))))) ∧ (¬ (v17 = 0) → hK h17 a0 = 9 ∧ hK h17 (hR h17 828 a0) = 10 ∧ 0 ≤ a2 ∧ a2 < hN h17 (hR h17 828 a0) ∧ (j32 (hA h17 (hR h17 828 a0) a2) → jCall d mX11_fault [jR a0, jI 7, jI (hA h17 (hR h17 828 a0) a2)] h17 (fun o h32 => ∃ v32, o = .inl (some (jI v32)) ∧ (0 ≤ v32 ∧ v32 ≤ 1) ∧ Q (.inl (some (jI v32))) h32))))))))) : jWp (d + 1) mX11_together 2 [(0, jR a0), (1, jI a1), (2, jI a2)] [] h Q := by
  refine jw_ok (fun ok q => ?_)
  replace k := k ok (q _ (.tail _ (.head _))) (q _ (.tail _ (.tail _ (.head _))))
  refine wp_iload_n 2 dX11_together_2 rfl ?_
  refine wp_aload_n 0 dX11_together_3 rfl ?_
  have c1 := k.1
  replace k := k.2
  refine wp_getR (ci := 8) (j := 13) rfl (by decide) gX11_51 dX11_together_4 c1 rfl ?_
  refine wp_bipush dX11_together_7 ⟨by decide, by decide⟩ ?_
  have c2 := k.1
  replace k := k.2
  have c3 := k.1
  replace k := k.2
  have c4 := k.1
  replace k := k.2
  refine wp_iaload dX11_together_9 c2 c3 c4 (fun q => ?_)
  have f5 := q
  replace k := k q
  refine wp_icmp_ge 78 dX11_together_10 rfl (fun q => ?_) (fun q => ?_)
  · replace k := k.1 q
    refine wp_iconst dX11_together_78 ⟨by decide, by decide⟩ ?_
    exact wp_zreturn dX11_together_79 rfl (by decide) (by decide) k
  · replace k := k.2 q
    refine wp_aload_n 0 dX11_together_13 rfl ?_
    refine wp_bipush dX11_together_14 ⟨by decide, by decide⟩ ?_
    refine wp_iload_n 2 dX11_together_16 rfl ?_
    refine wp_callV (ci := 8) (y' := mX11_isTwice) (st := []) [jI 9, jI a2] rfl rfl rfl fX11_isTwice kX11_367 nX11_isTwice dX11_together_17 (Nat.le_of_ble_eq_true rfl) c1 ?_
    refine jCall.mono k (fun o h17 k => ?_)
    obtain ⟨v17, e, k⟩ := k
    subst e
    show jWp (d + 1) mX11_together 20 [(0, jR a0), (1, jI a1), (2, jI a2)] [jI v17] h17 Q
    refine wp_if_eq 36 dX11_together_20 rfl (fun q => ?_) (fun q => ?_)
    · replace k := k.1 q
      refine wp_iload_n 1 dX11_together_36 rfl ?_
      refine wp_if_eq 72 dX11_together_37 rfl (fun q => ?_) (fun q => ?_)
      · replace k := k.1 q
        have c6 := k.1
        replace k := k.2
        refine wp_iinc 2 [1, 2, 0] (ls' := [(0, jR a0), (1, jI a1), (2, jI (a2 + 1))]) dX11_together_72 rfl c6 ⟨by decide, by decide⟩ (by decide) rfl ?_
        refine wp_goto 2 dX11_together_75 rfl ?_
        exact k
      · replace k := k.2 q
        refine wp_aload_n 0 dX11_together_40 rfl ?_
        refine wp_bipush dX11_together_41 ⟨by decide, by decide⟩ ?_
        refine wp_aload_n 0 dX11_together_43 rfl ?_
        have c7 := k.1
        replace k := k.2
        refine wp_getR (ci := 8) (j := 14) rfl (by decide) gX11_54 dX11_together_44 c7 rfl ?_
        refine wp_sipush dX11_together_47 ⟨by decide, by decide⟩ ?_
        refine wp_iload_n 2 dX11_together_50 rfl ?_
        have c8 := k.1
        replace k := k.2
        refine wp_iadd dX11_together_51 c8 ?_
        have c9 := k.1
        replace k := k.2
        have c10 := k.1
        replace k := k.2
        have c11 := k.1
        replace k := k.2
        refine wp_iaload dX11_together_52 c9 c10 c11 (fun q => ?_)
        have f12 := q
        replace k := k q
        refine wp_callV (ci := 8) (y' := mX11_wants) (st := []) [jI 9, jI (hA h17 (hR h17 814 a0) (180 + a2))] rfl rfl rfl fX11_wants kX11_370 nX11_wants dX11_together_53 (Nat.le_of_ble_eq_true rfl) c7 ?_
        refine jCall.mono k (fun o h53 k => ?_)
        obtain ⟨v53, e, k⟩ := k
        subst e
        show jWp (d + 1) mX11_together 56 [(0, jR a0), (1, jI a1), (2, jI a2)] [jI v53] h53 Q
        refine wp_if_ne 72 dX11_together_56 rfl (fun q => ?_) (fun q => ?_)
        · replace k := k.1 q
          have c13 := k.1
          replace k := k.2
          refine wp_iinc 2 [1, 2, 0] (ls' := [(0, jR a0), (1, jI a1), (2, jI (a2 + 1))]) dX11_together_72 rfl c13 ⟨by decide, by decide⟩ (by decide) rfl ?_
          refine wp_goto 2 dX11_together_75 rfl ?_
          exact k
        · replace k := k.2 q
          refine wp_aload_n 0 dX11_together_59 rfl ?_
          refine wp_bipush dX11_together_60 ⟨by decide, by decide⟩ ?_
          refine wp_aload_n 0 dX11_together_62 rfl ?_
          have c14 := k.1
          replace k := k.2
          refine wp_getR (ci := 8) (j := 28) rfl (by decide) gX11_98 dX11_together_63 c14 rfl ?_
          refine wp_iload_n 2 dX11_together_66 rfl ?_
          have c15 := k.1
          replace k := k.2
          have c16 := k.1
          replace k := k.2
          have c17 := k.1
          replace k := k.2
          refine wp_iaload dX11_together_67 c15 c16 c17 (fun q => ?_)
          have f18 := q
          replace k := k q
          refine wp_callV (ci := 8) (y' := mX11_fault) (st := []) [jI 8, jI (hA h53 (hR h53 828 a0) a2)] rfl rfl rfl fX11_fault kX11_304 nX11_fault dX11_together_68 (Nat.le_of_ble_eq_true rfl) c14 ?_
          refine jCall.mono k (fun o h68 k => ?_)
          obtain ⟨v68, e, k⟩ := k
          subst e
          show jWp (d + 1) mX11_together 71 [(0, jR a0), (1, jI a1), (2, jI a2)] [jI v68] h68 Q
          have c19 := k.1
          replace k := k.2
          exact wp_zreturn dX11_together_71 rfl c19.1 c19.2 k
    · replace k := k.2 q
      refine wp_aload_n 0 dX11_together_23 rfl ?_
      refine wp_bipush dX11_together_24 ⟨by decide, by decide⟩ ?_
      refine wp_aload_n 0 dX11_together_26 rfl ?_
      have c20 := k.1
      replace k := k.2
      refine wp_getR (ci := 8) (j := 28) rfl (by decide) gX11_98 dX11_together_27 c20 rfl ?_
      refine wp_iload_n 2 dX11_together_30 rfl ?_
      have c21 := k.1
      replace k := k.2
      have c22 := k.1
      replace k := k.2
      have c23 := k.1
      replace k := k.2
      refine wp_iaload dX11_together_31 c21 c22 c23 (fun q => ?_)
      have f24 := q
      replace k := k q
      refine wp_callV (ci := 8) (y' := mX11_fault) (st := []) [jI 7, jI (hA h17 (hR h17 828 a0) a2)] rfl rfl rfl fX11_fault kX11_304 nX11_fault dX11_together_32 (Nat.le_of_ble_eq_true rfl) c20 ?_
      refine jCall.mono k (fun o h32 k => ?_)
      obtain ⟨v32, e, k⟩ := k
      subst e
      show jWp (d + 1) mX11_together 35 [(0, jR a0), (1, jI a1), (2, jI a2)] [jI v32] h32 Q
      have c25 := k.1
      replace k := k.2
      exact wp_zreturn dX11_together_35 rfl c25.1 c25.2 k
theorem bX11_taken {d : Nat} {h : jH} {Q : jO → jH → Prop} {a0 : Nat} {a1 : Int} {a2 : Int} (k : jOK h → j32 a1 → j32 a2 → hK h a0 = 9 ∧ (0 ≤ a1 ∧ a1 ≤ 1) ∧ jCall d mX11_elements [jR a0] (sI h 826 a0 a1) (fun o h6 => ∃ v6, o = .inl (some (jI v6)) ∧ ((v6 = 0 → Q (.inl (some (jI (-1)))) h6) ∧ (¬ (v6 = 0) → hK h6 a0 = 9 ∧ jCall d mX11_together [jR a0, jI a2] h6 (fun o h14 => ∃ v14, o = .inl (some (jI v14)) ∧ ((v14 ≠ 0 → hK h14 a0 = 9 ∧ jCall d mX11_copyAll [jR a0, jI 9, jI 0] h14 (fun o h26 => ∃ v26, o = .inl (some (jI v26)) ∧ Q (.inl (some (jI v26))) h26)) ∧ (v14 = 0 → Q (.inl (some (jI (-1)))) h14))))))) : jCall (d + 1) mX11_taken [jR a0, jI a1, jI a2] h Q := by
  refine jCall_of plX11 (Nat.le_of_ble_eq_true rfl) ?_
  show jWp (d + 1) mX11_taken 0 [(0, jR a0), (1, jI a1), (2, jI a2)] [] h Q
  refine jw_ok (fun ok q => ?_)
  replace k := k ok (q _ (.tail _ (.head _))) (q _ (.tail _ (.tail _ (.head _))))
  refine wp_aload_n 0 dX11_taken_0 rfl ?_
  refine wp_iload_n 1 dX11_taken_1 rfl ?_
  have c1 := k.1
  replace k := k.2
  have c2 := k.1
  replace k := k.2
  refine wp_putZ (ci := 8) (j := 26) rfl (by decide) gX11_91 dX11_taken_2 c1 (Or.inl rfl) rfl c2 ?_
  refine wp_aload_n 0 dX11_taken_5 rfl ?_
  refine wp_callV (ci := 8) (y' := mX11_elements) (st := []) [] rfl rfl rfl fX11_elements kX11_373 nX11_elements dX11_taken_6 (Nat.le_of_ble_eq_true rfl) c1 ?_
  refine jCall.mono k (fun o h6 k => ?_)
  obtain ⟨v6, e, k⟩ := k
  subst e
  show jWp (d + 1) mX11_taken 9 [(0, jR a0), (1, jI a1), (2, jI a2)] [jI v6] h6 Q
  refine wp_if_eq 20 dX11_taken_9 rfl (fun q => ?_) (fun q => ?_)
  · replace k := k.1 q
    refine wp_iconst dX11_taken_20 ⟨by decide, by decide⟩ ?_
    exact wp_iret dX11_taken_21 rfl k
  · replace k := k.2 q
    refine wp_aload_n 0 dX11_taken_12 rfl ?_
    refine wp_iload_n 2 dX11_taken_13 rfl ?_
    have c3 := k.1
    replace k := k.2
    refine wp_callV (ci := 8) (y' := mX11_together) (st := []) [jI a2] rfl rfl rfl fX11_together kX11_376 nX11_together dX11_taken_14 (Nat.le_of_ble_eq_true rfl) c3 ?_
    refine jCall.mono k (fun o h14 k => ?_)
    obtain ⟨v14, e, k⟩ := k
    subst e
    show jWp (d + 1) mX11_taken 17 [(0, jR a0), (1, jI a1), (2, jI a2)] [jI v14] h14 Q
    refine wp_if_ne 22 dX11_taken_17 rfl (fun q => ?_) (fun q => ?_)
    · replace k := k.1 q
      refine wp_aload_n 0 dX11_taken_22 rfl ?_
      refine wp_bipush dX11_taken_23 ⟨by decide, by decide⟩ ?_
      refine wp_iconst dX11_taken_25 ⟨by decide, by decide⟩ ?_
      have c4 := k.1
      replace k := k.2
      refine wp_callV (ci := 8) (y' := mX11_copyAll) (st := []) [jI 9, jI 0] rfl rfl rfl fX11_copyAll kX11_380 nX11_copyAll dX11_taken_26 (Nat.le_of_ble_eq_true rfl) c4 ?_
      refine jCall.mono k (fun o h26 k => ?_)
      obtain ⟨v26, e, k⟩ := k
      subst e
      show jWp (d + 1) mX11_taken 29 [(0, jR a0), (1, jI a1), (2, jI a2)] [jI v26] h26 Q
      exact wp_iret dX11_taken_29 rfl k
    · replace k := k.2 q
      refine wp_iconst dX11_taken_20 ⟨by decide, by decide⟩ ?_
      exact wp_iret dX11_taken_21 rfl k
theorem bX11_read {d : Nat} {h : jH} {Q : jO → jH → Prop} {a0 : Nat} {a1 : Int} (k : jOK h → j32 a1 → hK h a0 = 9 ∧ (j32 (hI (sI (sI (sI h 812 a0 0) 823 a0 0) 824 a0 (-1)) 819 a0) → jWp (d + 1) mX11_read 25 [(0, jR a0), (1, jI a1), (2, jI 0)] [] (sI (sI (sI (sI h 812 a0 0) 823 a0 0) 824 a0 (-1)) 821 a0 (hI (sI (sI (sI h 812 a0 0) 823 a0 0) 824 a0 (-1)) 819 a0)) Q)) : jCall (d + 1) mX11_read [jR a0, jI a1] h Q := by
  refine jCall_of plX11 (Nat.le_of_ble_eq_true rfl) ?_
  show jWp (d + 1) mX11_read 0 [(0, jR a0), (1, jI a1)] [] h Q
  refine jw_ok (fun ok q => ?_)
  replace k := k ok (q _ (.tail _ (.head _)))
  refine wp_aload_n 0 dX11_read_0 rfl ?_
  refine wp_iconst dX11_read_1 ⟨by decide, by decide⟩ ?_
  have c1 := k.1
  replace k := k.2
  refine wp_putI (ci := 8) (j := 12) rfl (by decide) gX11_48 dX11_read_2 c1 (Or.inl rfl) rfl ?_
  refine wp_aload_n 0 dX11_read_5 rfl ?_
  refine wp_iconst dX11_read_6 ⟨by decide, by decide⟩ ?_
  refine wp_putI (ci := 8) (j := 23) rfl (by decide) gX11_82 dX11_read_7 c1 (Or.inl rfl) rfl ?_
  refine wp_aload_n 0 dX11_read_10 rfl ?_
  refine wp_iconst dX11_read_11 ⟨by decide, by decide⟩ ?_
  refine wp_putI (ci := 8) (j := 24) rfl (by decide) gX11_85 dX11_read_12 c1 (Or.inl rfl) rfl ?_
  refine wp_aload_n 0 dX11_read_15 rfl ?_
  refine wp_aload_n 0 dX11_read_16 rfl ?_
  refine wp_getI (ci := 8) (j := 19) rfl (by decide) gX11_70 dX11_read_17 c1 rfl (fun q => ?_)
  have f2 := q
  replace k := k q
  refine wp_putI (ci := 8) (j := 21) rfl (by decide) gX11_76 dX11_read_20 c1 (Or.inl rfl) rfl ?_
  refine wp_iconst dX11_read_23 ⟨by decide, by decide⟩ ?_
  refine wp_istore_n [1, 2, 0] (ls' := [(0, jR a0), (1, jI a1), (2, jI 0)]) dX11_read_24 (by decide) rfl ?_
  exact k
theorem bX11_read_25 {d : Nat} {h : jH} {Q : jO → jH → Prop} {a0 : Nat} {a1 : Int} {a2 : Int} (k : jOK h → j32 a1 → j32 a2 → hK h a0 = 9 ∧ (j32 (hI h 821 a0) → (((hI h 821 a0) ≤ a2 → jCall d mX11_taken [jR a0, jI a1, jI 1] (sI h 819 a0 0) (fun o h59 => ∃ v59, o = .inl (some (jI v59)) ∧ Q (.inl (some (jI v59))) h59)) ∧ (¬ ((hI h 821 a0) ≤ a2) → hK h (hR h 818 a0) = 11 ∧ 0 ≤ a2 ∧ a2 < hN h (hR h 818 a0) ∧ ((-128 ≤ hA h (hR h 818 a0) a2 ∧ hA h (hR h 818 a0) a2 ≤ 127) → hK h (hR h 820 a0) = 11 ∧ a2 < hN h (hR h 820 a0) ∧ (-128 ≤ (hA h (hR h 818 a0) a2) ∧ (hA h (hR h 818 a0) a2) ≤ 127) ∧ j32 (a2 + 1) ∧ jWp (d + 1) mX11_read 25 [(0, jR a0), (1, jI a1), (2, jI (a2 + 1))] [] (sA h (hR h 820 a0) a2 (hA h (hR h 818 a0) a2)) Q))))) : jWp (d + 1) mX11_read 25 [(0, jR a0), (1, jI a1), (2, jI a2)] [] h Q := by
  refine jw_ok (fun ok q => ?_)
  replace k := k ok (q _ (.tail _ (.head _))) (q _ (.tail _ (.tail _ (.head _))))
  refine wp_iload_n 2 dX11_read_25 rfl ?_
  refine wp_aload_n 0 dX11_read_26 rfl ?_
  have c1 := k.1
  replace k := k.2
  refine wp_getI (ci := 8) (j := 21) rfl (by decide) gX11_76 dX11_read_27 c1 rfl (fun q => ?_)
  have f2 := q
  replace k := k q
  refine wp_icmp_ge 51 dX11_read_30 rfl (fun q => ?_) (fun q => ?_)
  · replace k := k.1 q
    refine wp_aload_n 0 dX11_read_51 rfl ?_
    refine wp_iconst dX11_read_52 ⟨by decide, by decide⟩ ?_
    refine wp_putI (ci := 8) (j := 19) rfl (by decide) gX11_70 dX11_read_53 c1 (Or.inl rfl) rfl ?_
    refine wp_aload_n 0 dX11_read_56 rfl ?_
    refine wp_iload_n 1 dX11_read_57 rfl ?_
    refine wp_iconst dX11_read_58 ⟨by decide, by decide⟩ ?_
    refine wp_callV (ci := 8) (y' := mX11_taken) (st := []) [jI a1, jI 1] rfl rfl rfl fX11_taken kX11_383 nX11_taken dX11_read_59 (Nat.le_of_ble_eq_true rfl) c1 ?_
    refine jCall.mono k (fun o h59 k => ?_)
    obtain ⟨v59, e, k⟩ := k
    subst e
    show jWp (d + 1) mX11_read 62 [(0, jR a0), (1, jI a1), (2, jI a2)] [jI v59] h59 Q
    exact wp_iret dX11_read_62 rfl k
  · replace k := k.2 q
    refine wp_aload_n 0 dX11_read_33 rfl ?_
    refine wp_getR (ci := 8) (j := 20) rfl (by decide) gX11_73 dX11_read_34 c1 rfl ?_
    refine wp_iload_n 2 dX11_read_37 rfl ?_
    refine wp_aload_n 0 dX11_read_38 rfl ?_
    refine wp_getR (ci := 8) (j := 18) rfl (by decide) gX11_67 dX11_read_39 c1 rfl ?_
    refine wp_iload_n 2 dX11_read_42 rfl ?_
    have c3 := k.1
    replace k := k.2
    have c4 := k.1
    replace k := k.2
    have c5 := k.1
    replace k := k.2
    refine wp_baload dX11_read_43 c3 c4 c5 (fun q => ?_)
    have f6 := q
    replace k := k q
    have c7 := k.1
    replace k := k.2
    have c8 := k.1
    replace k := k.2
    have c9 := k.1
    replace k := k.2
    refine wp_bastore dX11_read_44 c7 c4 c8 c9 ?_
    have c10 := k.1
    replace k := k.2
    refine wp_iinc 2 [1, 2, 0] (ls' := [(0, jR a0), (1, jI a1), (2, jI (a2 + 1))]) dX11_read_45 rfl c10 ⟨by decide, by decide⟩ (by decide) rfl ?_
    refine wp_goto 25 dX11_read_48 rfl ?_
    exact k
theorem bX11_fault_ {d : Nat} {h : jH} {Q : jO → jH → Prop} {a0 : Nat} {a1 : Int} (k : jOK h → j32 a1 → hK h a0 = 9 ∧ ((a1 ≠ 0 → ((a1 ≠ 1 → Q (.inl (some (jI (-1)))) (sI h 812 a0 0)) ∧ (a1 = 1 → (j32 (hI (sI h 812 a0 0) 824 a0) → Q (.inl (some (jI (hI (sI h 812 a0 0) 824 a0)))) (sI h 812 a0 0))))) ∧ (a1 = 0 → (j32 (hI (sI h 812 a0 0) 823 a0) → Q (.inl (some (jI (hI (sI h 812 a0 0) 823 a0)))) (sI h 812 a0 0))))) : jCall d mX11_fault_ [jR a0, jI a1] h Q := by
  refine jCall_of plX11 (Nat.le_of_ble_eq_true rfl) ?_
  show jWp d mX11_fault_ 0 [(0, jR a0), (1, jI a1)] [] h Q
  refine jw_ok (fun ok q => ?_)
  replace k := k ok (q _ (.tail _ (.head _)))
  refine wp_aload_n 0 dX11_fault__0 rfl ?_
  refine wp_iconst dX11_fault__1 ⟨by decide, by decide⟩ ?_
  have c1 := k.1
  replace k := k.2
  refine wp_putI (ci := 8) (j := 12) rfl (by decide) gX11_48 dX11_fault__2 c1 (Or.inl rfl) rfl ?_
  refine wp_iload_n 1 dX11_fault__5 rfl ?_
  refine wp_if_ne 14 dX11_fault__6 rfl (fun q => ?_) (fun q => ?_)
  · replace k := k.1 q
    refine wp_iload_n 1 dX11_fault__14 rfl ?_
    refine wp_iconst dX11_fault__15 ⟨by decide, by decide⟩ ?_
    refine wp_icmp_ne 26 dX11_fault__16 rfl (fun q => ?_) (fun q => ?_)
    · replace k := k.1 q
      refine wp_iconst dX11_fault__26 ⟨by decide, by decide⟩ ?_
      exact wp_iret dX11_fault__27 rfl k
    · replace k := k.2 q
      refine wp_aload_n 0 dX11_fault__19 rfl ?_
      refine wp_getI (ci := 8) (j := 24) rfl (by decide) gX11_85 dX11_fault__20 c1 rfl (fun q => ?_)
      have f2 := q
      replace k := k q
      refine wp_goto 27 dX11_fault__23 rfl ?_
      exact wp_iret dX11_fault__27 rfl k
  · replace k := k.2 q
    refine wp_aload_n 0 dX11_fault__9 rfl ?_
    refine wp_getI (ci := 8) (j := 23) rfl (by decide) gX11_82 dX11_fault__10 c1 rfl (fun q => ?_)
    have f3 := q
    replace k := k q
    exact wp_iret dX11_fault__13 rfl k
theorem bX11_sizeOf {d : Nat} {h : jH} {Q : jO → jH → Prop} {a0 : Nat} {a1 : Int} (k : jOK h → j32 a1 → hK h a0 = 9 ∧ hK h (hR h 814 a0) = 10 ∧ 0 ≤ a1 ∧ a1 < hN h (hR h 814 a0) ∧ (j32 (hA h (hR h 814 a0) a1) → hK h (hR h 802 a0) = 10 ∧ 0 ≤ (hA h (hR h 814 a0) a1) ∧ (hA h (hR h 814 a0) a1) < hN h (hR h 802 a0) ∧ (j32 (hA h (hR h 802 a0) (hA h (hR h 814 a0) a1)) → hK h (hR h 815 a0) = 10 ∧ a1 < hN h (hR h 815 a0) ∧ (j32 (hA h (hR h 815 a0) a1) → j32 ((hA h (hR h 802 a0) (hA h (hR h 814 a0) a1)) + (hA h (hR h 815 a0) a1)) ∧ Q (.inl (some (jI ((hA h (hR h 802 a0) (hA h (hR h 814 a0) a1)) + (hA h (hR h 815 a0) a1))))) h)))) : jCall d mX11_sizeOf [jR a0, jI a1] h Q := by
  refine jCall_of plX11 (Nat.le_of_ble_eq_true rfl) ?_
  show jWp d mX11_sizeOf 0 [(0, jR a0), (1, jI a1)] [] h Q
  refine jw_ok (fun ok q => ?_)
  replace k := k ok (q _ (.tail _ (.head _)))
  refine wp_aload_n 0 dX11_sizeOf_0 rfl ?_
  have c1 := k.1
  replace k := k.2
  refine wp_getR (ci := 8) (j := 2) rfl (by decide) gX11_16 dX11_sizeOf_1 c1 rfl ?_
  refine wp_aload_n 0 dX11_sizeOf_4 rfl ?_
  refine wp_getR (ci := 8) (j := 14) rfl (by decide) gX11_54 dX11_sizeOf_5 c1 rfl ?_
  refine wp_iload_n 1 dX11_sizeOf_8 rfl ?_
  have c2 := k.1
  replace k := k.2
  have c3 := k.1
  replace k := k.2
  have c4 := k.1
  replace k := k.2
  refine wp_iaload dX11_sizeOf_9 c2 c3 c4 (fun q => ?_)
  have f5 := q
  replace k := k q
  have c6 := k.1
  replace k := k.2
  have c7 := k.1
  replace k := k.2
  have c8 := k.1
  replace k := k.2
  refine wp_iaload dX11_sizeOf_10 c6 c7 c8 (fun q => ?_)
  have f9 := q
  replace k := k q
  refine wp_aload_n 0 dX11_sizeOf_11 rfl ?_
  refine wp_getR (ci := 8) (j := 15) rfl (by decide) gX11_57 dX11_sizeOf_12 c1 rfl ?_
  refine wp_iload_n 1 dX11_sizeOf_15 rfl ?_
  have c10 := k.1
  replace k := k.2
  have c11 := k.1
  replace k := k.2
  refine wp_iaload dX11_sizeOf_16 c10 c3 c11 (fun q => ?_)
  have f12 := q
  replace k := k q
  have c13 := k.1
  replace k := k.2
  refine wp_iadd dX11_sizeOf_17 c13 ?_
  exact wp_iret dX11_sizeOf_18 rfl k
theorem bX11_fits {d : Nat} {h : jH} {Q : jO → jH → Prop} {a0 : Nat} {a1 : Int} {a2 : Int} (k : jOK h → j32 a1 → j32 a2 → hK h a0 = 9 ∧ jWp (d + 1) mX11_fits 10 [(0, jR a0), (1, jI a1), (2, jI a2), (3, jI 0), (4, jI a1)] [] (sI h 829 a0 0) Q) : jCall (d + 1) mX11_fits [jR a0, jI a1, jI a2] h Q := by
  refine jCall_of plX11 (Nat.le_of_ble_eq_true rfl) ?_
  show jWp (d + 1) mX11_fits 0 [(0, jR a0), (1, jI a1), (2, jI a2)] [] h Q
  refine jw_ok (fun ok q => ?_)
  replace k := k ok (q _ (.tail _ (.head _))) (q _ (.tail _ (.tail _ (.head _))))
  refine wp_iconst dX11_fits_0 ⟨by decide, by decide⟩ ?_
  refine wp_istore_n [1, 2, 3, 0] (ls' := [(0, jR a0), (1, jI a1), (2, jI a2), (3, jI 0)]) dX11_fits_1 (by decide) rfl ?_
  refine wp_aload_n 0 dX11_fits_2 rfl ?_
  refine wp_iconst dX11_fits_3 ⟨by decide, by decide⟩ ?_
  have c1 := k.1
  replace k := k.2
  refine wp_putI (ci := 8) (j := 29) rfl (by decide) gX11_101 dX11_fits_4 c1 (Or.inl rfl) rfl ?_
  refine wp_iload_n 1 dX11_fits_7 rfl ?_
  refine wp_istore [1, 2, 3, 4, 0] (ls' := [(0, jR a0), (1, jI a1), (2, jI a2), (3, jI 0), (4, jI a1)]) dX11_fits_8 (by decide) rfl ?_
  exact k
theorem bX11_fits_10 {d : Nat} {h : jH} {Q : jO → jH → Prop} {a0 : Nat} {a1 : Int} {a2 : Int} {a3 : Int} {a4 : Int} (k : jOK h → j32 a1 → j32 a2 → j32 a3 → j32 a4 → hK h a0 = 9 ∧ hK h (hR h 813 a0) = 10 ∧ 0 ≤ (0 : Int) ∧ 0 < hN h (hR h 813 a0) ∧ (j32 (hA h (hR h 813 a0) 0) → (((hA h (hR h 813 a0) 0) ≤ a4 → jWp (d + 1) mX11_fits 89 [(3, jI a3)] [] h Q) ∧ (¬ ((hA h (hR h 813 a0) 0) ≤ a4) → jCall d mX11_sizeOf [jR a0, jI a4] h (fun o h24 => ∃ v24, o = .inl (some (jI v24)) ∧ ((a4 ≤ a1 → j32 (v24 + 0) ∧ j32 (a3 + (v24 + 0)) ∧ (((a3 + (v24 + 0)) ≤ a2 → hK h24 a0 = 9 ∧ (j32 (hI h24 829 a0) → j32 ((hI h24 829 a0) + 1) ∧ j32 (a4 + 1) ∧ jWp (d + 1) mX11_fits 10 [(0, jR a0), (1, jI a1), (2, jI a2), (3, jI (a3 + (v24 + 0))), (4, jI (a4 + 1))] [] (sI h24 829 a0 ((hI h24 829 a0) + 1)) Q)) ∧ (¬ ((a3 + (v24 + 0)) ≤ a2) → jWp (d + 1) mX11_fits 89 [(3, jI a3)] [] h24 Q))) ∧ (¬ (a4 ≤ a1) → hK h24 a0 = 9 ∧ j32 (a4 - 1) ∧ hK h24 (hR h24 814 a0) = 10 ∧ 0 ≤ (a4 - 1) ∧ (a4 - 1) < hN h24 (hR h24 814 a0) ∧ (j32 (hA h24 (hR h24 814 a0) (a4 - 1)) → jCall d mX11_isFixed [jR a0, jI (hA h24 (hR h24 814 a0) (a4 - 1))] h24 (fun o h43 => ∃ v43, o = .inl (some (jI v43)) ∧ ((v43 ≠ 0 → j32 (v24 + 0) ∧ j32 (a3 + (v24 + 0)) ∧ (((a3 + (v24 + 0)) ≤ a2 → hK h43 a0 = 9 ∧ (j32 (hI h43 829 a0) → j32 ((hI h43 829 a0) + 1) ∧ j32 (a4 + 1) ∧ jWp (d + 1) mX11_fits 10 [(0, jR a0), (1, jI a1), (2, jI a2), (3, jI (a3 + (v24 + 0))), (4, jI (a4 + 1))] [] (sI h43 829 a0 ((hI h43 829 a0) + 1)) Q)) ∧ (¬ ((a3 + (v24 + 0)) ≤ a2) → jWp (d + 1) mX11_fits 89 [(3, jI a3)] [] h43 Q))) ∧ (v43 = 0 → j32 (v24 + 1) ∧ j32 (a3 + (v24 + 1)) ∧ (((a3 + (v24 + 1)) ≤ a2 → hK h43 a0 = 9 ∧ (j32 (hI h43 829 a0) → j32 ((hI h43 829 a0) + 1) ∧ j32 (a4 + 1) ∧ jWp (d + 1) mX11_fits 10 [(0, jR a0), (1, jI a1), (2, jI a2), (3, jI (a3 + (v24 + 1))), (4, jI (a4 + 1))] [] (sI h43 829 a0 ((hI h43 829 a0) + 1)) Q)) ∧ (¬ ((a3 + (v24 + 1)) ≤ a2) → jWp (d + 1) mX11_fits 89 [(3, jI a3)] [] h43 Q))))))))))))) : jWp (d + 1) mX11_fits 10 [(0, jR a0), (1, jI a1), (2, jI a2), (3, jI a3), (4, jI a4)] [] h Q := by
  refine jw_ok (fun ok q => ?_)
  replace k := k ok (q _ (.tail _ (.head _))) (q _ (.tail _ (.tail _ (.head _)))) (q _ (.tail _ (.tail _ (.tail _ (.head _))))) (q _ (.tail _ (.tail _ (.tail _ (.tail _ (.head _))))))
  refine wp_iload 4 dX11_fits_10 rfl ?_
  refine wp_aload_n 0 dX11_fits_12 rfl ?_
  have c1 := k.1
  replace k := k.2
  refine wp_getR (ci := 8) (j := 13) rfl (by decide) gX11_51 dX11_fits_13 c1 rfl ?_
  refine wp_iconst dX11_fits_16 ⟨by decide, by decide⟩ ?_
  have c2 := k.1
  replace k := k.2
  have c3 := k.1
  replace k := k.2
  have c4 := k.1
  replace k := k.2
  refine wp_iaload dX11_fits_17 c2 c3 c4 (fun q => ?_)
  have f5 := q
  replace k := k q
  refine wp_icmp_ge 89 dX11_fits_18 rfl (fun q => ?_) (fun q => ?_)
  · replace k := k.1 q
    refine wp_sub [3] (ls' := [(3, jI a3)]) rfl ?_
    exact k
  · replace k := k.2 q
    refine wp_aload_n 0 dX11_fits_21 rfl ?_
    refine wp_iload 4 dX11_fits_22 rfl ?_
    refine wp_callV (ci := 8) (y' := mX11_sizeOf) (st := []) [jI a4] rfl rfl rfl fX11_sizeOf kX11_387 nX11_sizeOf dX11_fits_24 (Nat.le_of_ble_eq_true rfl) c1 ?_
    refine jCall.mono k (fun o h24 k => ?_)
    obtain ⟨v24, e, k⟩ := k
    subst e
    show jWp (d + 1) mX11_fits 27 [(0, jR a0), (1, jI a1), (2, jI a2), (3, jI a3), (4, jI a4)] [jI v24] h24 Q
    refine wp_iload 4 dX11_fits_27 rfl ?_
    refine wp_iload_n 1 dX11_fits_29 rfl ?_
    refine wp_icmp_le 53 dX11_fits_30 rfl (fun q => ?_) (fun q => ?_)
    · replace k := k.1 q
      refine wp_iconst dX11_fits_53 ⟨by decide, by decide⟩ ?_
      have c6 := k.1
      replace k := k.2
      refine wp_iadd dX11_fits_54 c6 ?_
      refine wp_istore [1, 2, 3, 4, 5, 0] (ls' := [(0, jR a0), (1, jI a1), (2, jI a2), (3, jI a3), (4, jI a4), (5, jI (v24 + 0))]) dX11_fits_55 (by decide) rfl ?_
      refine wp_iload_n 3 dX11_fits_57 rfl ?_
      refine wp_iload 5 dX11_fits_58 rfl ?_
      have c7 := k.1
      replace k := k.2
      refine wp_iadd dX11_fits_60 c7 ?_
      refine wp_iload_n 2 dX11_fits_61 rfl ?_
      refine wp_icmp_le 68 dX11_fits_62 rfl (fun q => ?_) (fun q => ?_)
      · replace k := k.1 q
        refine wp_iload_n 3 dX11_fits_68 rfl ?_
        refine wp_iload 5 dX11_fits_69 rfl ?_
        refine wp_iadd dX11_fits_71 c7 ?_
        refine wp_istore_n [1, 2, 3, 0, 4] (ls' := [(0, jR a0), (1, jI a1), (2, jI a2), (3, jI (a3 + (v24 + 0))), (4, jI a4)]) dX11_fits_72 (by decide) rfl ?_
        refine wp_aload_n 0 dX11_fits_73 rfl ?_
        refine wp_dup dX11_fits_74 rfl ?_
        have c8 := k.1
        replace k := k.2
        refine wp_getI (ci := 8) (j := 29) rfl (by decide) gX11_101 dX11_fits_75 c8 rfl (fun q => ?_)
        have f9 := q
        replace k := k q
        refine wp_iconst dX11_fits_78 ⟨by decide, by decide⟩ ?_
        have c10 := k.1
        replace k := k.2
        refine wp_iadd dX11_fits_79 c10 ?_
        refine wp_putI (ci := 8) (j := 29) rfl (by decide) gX11_101 dX11_fits_80 c8 (Or.inl rfl) rfl ?_
        have c11 := k.1
        replace k := k.2
        refine wp_iinc 4 [1, 2, 3, 4, 0] (ls' := [(0, jR a0), (1, jI a1), (2, jI a2), (3, jI (a3 + (v24 + 0))), (4, jI (a4 + 1))]) dX11_fits_83 rfl c11 ⟨by decide, by decide⟩ (by decide) rfl ?_
        refine wp_goto 10 dX11_fits_86 rfl ?_
        exact k
      · replace k := k.2 q
        refine wp_goto 89 dX11_fits_65 rfl ?_
        refine wp_sub [3] (ls' := [(3, jI a3)]) rfl ?_
        exact k
    · replace k := k.2 q
      refine wp_aload_n 0 dX11_fits_33 rfl ?_
      refine wp_aload_n 0 dX11_fits_34 rfl ?_
      have c12 := k.1
      replace k := k.2
      refine wp_getR (ci := 8) (j := 14) rfl (by decide) gX11_54 dX11_fits_35 c12 rfl ?_
      refine wp_iload 4 dX11_fits_38 rfl ?_
      refine wp_iconst dX11_fits_40 ⟨by decide, by decide⟩ ?_
      have c13 := k.1
      replace k := k.2
      refine wp_isub dX11_fits_41 c13 ?_
      have c14 := k.1
      replace k := k.2
      have c15 := k.1
      replace k := k.2
      have c16 := k.1
      replace k := k.2
      refine wp_iaload dX11_fits_42 c14 c15 c16 (fun q => ?_)
      have f17 := q
      replace k := k q
      refine wp_callV (ci := 8) (y' := mX11_isFixed) (st := [jI v24]) [jI (hA h24 (hR h24 814 a0) (a4 - 1))] rfl rfl rfl fX11_isFixed kX11_317 nX11_isFixed dX11_fits_43 (Nat.le_of_ble_eq_true rfl) c12 ?_
      refine jCall.mono k (fun o h43 k => ?_)
      obtain ⟨v43, e, k⟩ := k
      subst e
      show jWp (d + 1) mX11_fits 46 [(0, jR a0), (1, jI a1), (2, jI a2), (3, jI a3), (4, jI a4)] [jI v43, jI v24] h43 Q
      refine wp_if_ne 53 dX11_fits_46 rfl (fun q => ?_) (fun q => ?_)
      · replace k := k.1 q
        refine wp_iconst dX11_fits_53 ⟨by decide, by decide⟩ ?_
        have c18 := k.1
        replace k := k.2
        refine wp_iadd dX11_fits_54 c18 ?_
        refine wp_istore [1, 2, 3, 4, 5, 0] (ls' := [(0, jR a0), (1, jI a1), (2, jI a2), (3, jI a3), (4, jI a4), (5, jI (v24 + 0))]) dX11_fits_55 (by decide) rfl ?_
        refine wp_iload_n 3 dX11_fits_57 rfl ?_
        refine wp_iload 5 dX11_fits_58 rfl ?_
        have c19 := k.1
        replace k := k.2
        refine wp_iadd dX11_fits_60 c19 ?_
        refine wp_iload_n 2 dX11_fits_61 rfl ?_
        refine wp_icmp_le 68 dX11_fits_62 rfl (fun q => ?_) (fun q => ?_)
        · replace k := k.1 q
          refine wp_iload_n 3 dX11_fits_68 rfl ?_
          refine wp_iload 5 dX11_fits_69 rfl ?_
          refine wp_iadd dX11_fits_71 c19 ?_
          refine wp_istore_n [1, 2, 3, 0, 4] (ls' := [(0, jR a0), (1, jI a1), (2, jI a2), (3, jI (a3 + (v24 + 0))), (4, jI a4)]) dX11_fits_72 (by decide) rfl ?_
          refine wp_aload_n 0 dX11_fits_73 rfl ?_
          refine wp_dup dX11_fits_74 rfl ?_
          have c20 := k.1
          replace k := k.2
          refine wp_getI (ci := 8) (j := 29) rfl (by decide) gX11_101 dX11_fits_75 c20 rfl (fun q => ?_)
          have f21 := q
          replace k := k q
          refine wp_iconst dX11_fits_78 ⟨by decide, by decide⟩ ?_
          have c22 := k.1
          replace k := k.2
          refine wp_iadd dX11_fits_79 c22 ?_
          refine wp_putI (ci := 8) (j := 29) rfl (by decide) gX11_101 dX11_fits_80 c20 (Or.inl rfl) rfl ?_
          have c23 := k.1
          replace k := k.2
          refine wp_iinc 4 [1, 2, 3, 4, 0] (ls' := [(0, jR a0), (1, jI a1), (2, jI a2), (3, jI (a3 + (v24 + 0))), (4, jI (a4 + 1))]) dX11_fits_83 rfl c23 ⟨by decide, by decide⟩ (by decide) rfl ?_
          refine wp_goto 10 dX11_fits_86 rfl ?_
          exact k
        · replace k := k.2 q
          refine wp_goto 89 dX11_fits_65 rfl ?_
          refine wp_sub [3] (ls' := [(3, jI a3)]) rfl ?_
          exact k
      · replace k := k.2 q
        refine wp_iconst dX11_fits_49 ⟨by decide, by decide⟩ ?_
        refine wp_goto 54 dX11_fits_50 rfl ?_
        have c24 := k.1
        replace k := k.2
        refine wp_iadd dX11_fits_54 c24 ?_
        refine wp_istore [1, 2, 3, 4, 5, 0] (ls' := [(0, jR a0), (1, jI a1), (2, jI a2), (3, jI a3), (4, jI a4), (5, jI (v24 + 1))]) dX11_fits_55 (by decide) rfl ?_
        refine wp_iload_n 3 dX11_fits_57 rfl ?_
        refine wp_iload 5 dX11_fits_58 rfl ?_
        have c25 := k.1
        replace k := k.2
        refine wp_iadd dX11_fits_60 c25 ?_
        refine wp_iload_n 2 dX11_fits_61 rfl ?_
        refine wp_icmp_le 68 dX11_fits_62 rfl (fun q => ?_) (fun q => ?_)
        · replace k := k.1 q
          refine wp_iload_n 3 dX11_fits_68 rfl ?_
          refine wp_iload 5 dX11_fits_69 rfl ?_
          refine wp_iadd dX11_fits_71 c25 ?_
          refine wp_istore_n [1, 2, 3, 0, 4] (ls' := [(0, jR a0), (1, jI a1), (2, jI a2), (3, jI (a3 + (v24 + 1))), (4, jI a4)]) dX11_fits_72 (by decide) rfl ?_
          refine wp_aload_n 0 dX11_fits_73 rfl ?_
          refine wp_dup dX11_fits_74 rfl ?_
          have c26 := k.1
          replace k := k.2
          refine wp_getI (ci := 8) (j := 29) rfl (by decide) gX11_101 dX11_fits_75 c26 rfl (fun q => ?_)
          have f27 := q
          replace k := k q
          refine wp_iconst dX11_fits_78 ⟨by decide, by decide⟩ ?_
          have c28 := k.1
          replace k := k.2
          refine wp_iadd dX11_fits_79 c28 ?_
          refine wp_putI (ci := 8) (j := 29) rfl (by decide) gX11_101 dX11_fits_80 c26 (Or.inl rfl) rfl ?_
          have c29 := k.1
          replace k := k.2
          refine wp_iinc 4 [1, 2, 3, 4, 0] (ls' := [(0, jR a0), (1, jI a1), (2, jI a2), (3, jI (a3 + (v24 + 1))), (4, jI (a4 + 1))]) dX11_fits_83 rfl c29 ⟨by decide, by decide⟩ (by decide) rfl ?_
          refine wp_goto 10 dX11_fits_86 rfl ?_
          exact k
        · replace k := k.2 q
          refine wp_goto 89 dX11_fits_65 rfl ?_
          refine wp_sub [3] (ls' := [(3, jI a3)]) rfl ?_
          exact k
theorem bX11_fits_89 {d : Nat} {h : jH} {Q : jO → jH → Prop} {a3 : Int} (k : jOK h → j32 a3 → Q (.inl (some (jI a3))) h) : jWp (d + 1) mX11_fits 89 [(3, jI a3)] [] h Q := by
  refine jw_ok (fun ok q => ?_)
  replace k := k ok (q _ (.head _))
  refine wp_iload_n 0 dX11_fits_89 rfl ?_
  exact wp_iret dX11_fits_90 rfl k
theorem bX11_list {d : Nat} {h : jH} {Q : jO → jH → Prop} {a0 : Nat} {a1 : Int} (k : jOK h → j32 a1 → hK h a0 = 9 ∧ ((a1 ≠ 0 → ((a1 ≠ 1 → ((a1 = 2 → jWp (d + 1) mX11_list 41 [(0, jR a0), (2, jI 0), (3, jI 0)] [] (sI h 812 a0 0) Q) ∧ (¬ (a1 = 2) → Q (.inl (some (jI (-1)))) (sI h 812 a0 0)))) ∧ (a1 = 1 → jCall d mX11_fits [jR a0, jI 0, jI 100000] (sI h 812 a0 0) (fun o h26 => ∃ v26, o = .inl (some (jI v26)) ∧ Q (.inl (some (jI v26))) h26)))) ∧ (a1 = 0 → hK h (hR h 813 a0) = 10 ∧ 0 ≤ (0 : Int) ∧ 0 < hN h (hR h 813 a0) ∧ (j32 (hA h (hR h 813 a0) 0) → Q (.inl (some (jI (hA h (hR h 813 a0) 0)))) (sI h 812 a0 0))))) : jCall (d + 1) mX11_list [jR a0, jI a1] h Q := by
  refine jCall_of plX11 (Nat.le_of_ble_eq_true rfl) ?_
  show jWp (d + 1) mX11_list 0 [(0, jR a0), (1, jI a1)] [] h Q
  refine jw_ok (fun ok q => ?_)
  replace k := k ok (q _ (.tail _ (.head _)))
  refine wp_aload_n 0 dX11_list_0 rfl ?_
  refine wp_iconst dX11_list_1 ⟨by decide, by decide⟩ ?_
  have c1 := k.1
  replace k := k.2
  refine wp_putI (ci := 8) (j := 12) rfl (by decide) gX11_48 dX11_list_2 c1 (Or.inl rfl) rfl ?_
  refine wp_iload_n 1 dX11_list_5 rfl ?_
  refine wp_if_ne 16 dX11_list_6 rfl (fun q => ?_) (fun q => ?_)
  · replace k := k.1 q
    refine wp_iload_n 1 dX11_list_16 rfl ?_
    refine wp_iconst dX11_list_17 ⟨by decide, by decide⟩ ?_
    refine wp_icmp_ne 30 dX11_list_18 rfl (fun q => ?_) (fun q => ?_)
    · replace k := k.1 q
      refine wp_iload_n 1 dX11_list_30 rfl ?_
      refine wp_iconst dX11_list_31 ⟨by decide, by decide⟩ ?_
      refine wp_icmp_eq 37 dX11_list_32 rfl (fun q => ?_) (fun q => ?_)
      · replace k := k.1 q
        refine wp_iconst dX11_list_37 ⟨by decide, by decide⟩ ?_
        refine wp_istore_n [1, 0] (ls' := [(0, jR a0), (2, jI 0)]) dX11_list_38 (by decide) rfl ?_
        refine wp_iconst dX11_list_39 ⟨by decide, by decide⟩ ?_
        refine wp_istore_n [1, 2, 0] (ls' := [(0, jR a0), (2, jI 0), (3, jI 0)]) dX11_list_40 (by decide) rfl ?_
        exact k
      · replace k := k.2 q
        refine wp_iconst dX11_list_35 ⟨by decide, by decide⟩ ?_
        exact wp_iret dX11_list_36 rfl k
    · replace k := k.2 q
      refine wp_aload_n 0 dX11_list_21 rfl ?_
      refine wp_iconst dX11_list_22 ⟨by decide, by decide⟩ ?_
      refine wp_ldc_w dX11_list_23 eX11_390 rfl ⟨by decide, by decide⟩ ?_
      refine wp_callV (ci := 8) (y' := mX11_fits) (st := []) [jI 0, jI 100000] rfl rfl rfl fX11_fits kX11_391 nX11_fits dX11_list_26 (Nat.le_of_ble_eq_true rfl) c1 ?_
      refine jCall.mono k (fun o h26 k => ?_)
      obtain ⟨v26, e, k⟩ := k
      subst e
      show jWp (d + 1) mX11_list 29 [(0, jR a0), (1, jI a1)] [jI v26] h26 Q
      exact wp_iret dX11_list_29 rfl k
  · replace k := k.2 q
    refine wp_aload_n 0 dX11_list_9 rfl ?_
    refine wp_getR (ci := 8) (j := 13) rfl (by decide) gX11_51 dX11_list_10 c1 rfl ?_
    refine wp_iconst dX11_list_13 ⟨by decide, by decide⟩ ?_
    have c2 := k.1
    replace k := k.2
    have c3 := k.1
    replace k := k.2
    have c4 := k.1
    replace k := k.2
    refine wp_iaload dX11_list_14 c2 c3 c4 (fun q => ?_)
    have f5 := q
    replace k := k q
    exact wp_iret dX11_list_15 rfl k
theorem bX11_list_41 {d : Nat} {h : jH} {Q : jO → jH → Prop} {a0 : Nat} {a2 : Int} {a3 : Int} (k : jOK h → j32 a2 → j32 a3 → hK h a0 = 9 ∧ hK h (hR h 813 a0) = 10 ∧ 0 ≤ (0 : Int) ∧ 0 < hN h (hR h 813 a0) ∧ (j32 (hA h (hR h 813 a0) 0) → (((hA h (hR h 813 a0) 0) ≤ a3 → Q (.inl (some (jI a2))) h) ∧ (¬ ((hA h (hR h 813 a0) 0) ≤ a3) → jCall d mX11_fits [jR a0, jI a3, jI 48] h (fun o h55 => ∃ v55, o = .inl (some (jI v55)) ∧ hK h55 a0 = 9 ∧ (j32 (hI h55 829 a0) → (((hI h55 829 a0) ≠ 0 → j32 (a3 + (hI h55 829 a0)) ∧ j32 (a2 + 1) ∧ jWp (d + 1) mX11_list 41 [(0, jR a0), (2, jI (a2 + 1)), (3, jI (a3 + (hI h55 829 a0)))] [] h55 Q) ∧ ((hI h55 829 a0) = 0 → Q (.inl (some (jI (-1)))) h55)))))))) : jWp (d + 1) mX11_list 41 [(0, jR a0), (2, jI a2), (3, jI a3)] [] h Q := by
  refine jw_ok (fun ok q => ?_)
  replace k := k ok (q _ (.tail _ (.head _))) (q _ (.tail _ (.tail _ (.head _))))
  refine wp_iload_n 2 dX11_list_41 rfl ?_
  refine wp_aload_n 0 dX11_list_42 rfl ?_
  have c1 := k.1
  replace k := k.2
  refine wp_getR (ci := 8) (j := 13) rfl (by decide) gX11_51 dX11_list_43 c1 rfl ?_
  refine wp_iconst dX11_list_46 ⟨by decide, by decide⟩ ?_
  have c2 := k.1
  replace k := k.2
  have c3 := k.1
  replace k := k.2
  have c4 := k.1
  replace k := k.2
  refine wp_iaload dX11_list_47 c2 c3 c4 (fun q => ?_)
  have f5 := q
  replace k := k q
  refine wp_icmp_ge 81 dX11_list_48 rfl (fun q => ?_) (fun q => ?_)
  · replace k := k.1 q
    refine wp_iload_n 1 dX11_list_81 rfl ?_
    exact wp_iret dX11_list_82 rfl k
  · replace k := k.2 q
    refine wp_aload_n 0 dX11_list_51 rfl ?_
    refine wp_iload_n 2 dX11_list_52 rfl ?_
    refine wp_bipush dX11_list_53 ⟨by decide, by decide⟩ ?_
    refine wp_callV (ci := 8) (y' := mX11_fits) (st := []) [jI a3, jI 48] rfl rfl rfl fX11_fits kX11_391 nX11_fits dX11_list_55 (Nat.le_of_ble_eq_true rfl) c1 ?_
    refine jCall.mono k (fun o h55 k => ?_)
    obtain ⟨v55, e, k⟩ := k
    subst e
    show jWp (d + 1) mX11_list 58 [(0, jR a0), (2, jI a2), (3, jI a3)] [jI v55] h55 Q
    refine wp_pop dX11_list_58 rfl ?_
    refine wp_aload_n 0 dX11_list_59 rfl ?_
    have c6 := k.1
    replace k := k.2
    refine wp_getI (ci := 8) (j := 29) rfl (by decide) gX11_101 dX11_list_60 c6 rfl (fun q => ?_)
    have f7 := q
    replace k := k q
    refine wp_if_ne 68 dX11_list_63 rfl (fun q => ?_) (fun q => ?_)
    · replace k := k.1 q
      refine wp_iload_n 2 dX11_list_68 rfl ?_
      refine wp_aload_n 0 dX11_list_69 rfl ?_
      refine wp_getI (ci := 8) (j := 29) rfl (by decide) gX11_101 dX11_list_70 c6 rfl (fun q => ?_)
      have c8 := k.1
      replace k := k.2
      refine wp_iadd dX11_list_73 c8 ?_
      refine wp_istore_n [1, 2, 0] (ls' := [(0, jR a0), (2, jI a2), (3, jI (a3 + (hI h55 829 a0)))]) dX11_list_74 (by decide) rfl ?_
      have c9 := k.1
      replace k := k.2
      refine wp_iinc 1 [1, 0, 2] (ls' := [(0, jR a0), (2, jI (a2 + 1)), (3, jI (a3 + (hI h55 829 a0)))]) dX11_list_75 rfl c9 ⟨by decide, by decide⟩ (by decide) rfl ?_
      refine wp_goto 41 dX11_list_78 rfl ?_
      exact k
    · replace k := k.2 q
      refine wp_iconst dX11_list_66 ⟨by decide, by decide⟩ ?_
      exact wp_iret dX11_list_67 rfl k
theorem bX11_isOut {d : Nat} {h : jH} {Q : jO → jH → Prop} {a0 : Nat} {a1 : Int} (k : jOK h → j32 a1 → ((a1 < 0 → hK h a0 = 9 ∧ jCall d mX11_throwing [jR a0, jI 1] h (fun o h16 => ∃ v16, o = .inl (some (jI v16)) ∧ ((v16 = 0 → Q (.inl (some (jI 0))) h16) ∧ (¬ (v16 = 0) → Q (.inl (some (jI 1))) h16)))) ∧ (¬ (a1 < 0) → hK h a0 = 9 ∧ hK h (hR h 813 a0) = 10 ∧ 0 ≤ (0 : Int) ∧ 0 < hN h (hR h 813 a0) ∧ (j32 (hA h (hR h 813 a0) 0) → ((a1 < (hA h (hR h 813 a0) 0) → Q (.inl (some (jI 0))) h) ∧ (¬ (a1 < (hA h (hR h 813 a0) 0)) → jCall d mX11_throwing [jR a0, jI 1] h (fun o h16_1 => ∃ v16_1, o = .inl (some (jI v16_1)) ∧ ((v16_1 = 0 → Q (.inl (some (jI 0))) h16_1) ∧ (¬ (v16_1 = 0) → Q (.inl (some (jI 1))) h16_1))))))))) : jCall (d + 1) mX11_isOut [jR a0, jI a1] h Q := by
  refine jCall_of plX11 (Nat.le_of_ble_eq_true rfl) ?_
  show jWp (d + 1) mX11_isOut 0 [(0, jR a0), (1, jI a1)] [] h Q
  refine jw_ok (fun ok q => ?_)
  replace k := k ok (q _ (.tail _ (.head _)))
  refine wp_iload_n 1 dX11_isOut_0 rfl ?_
  refine wp_if_lt 14 dX11_isOut_1 rfl (fun q => ?_) (fun q => ?_)
  · replace k := k.1 q
    refine wp_aload_n 0 dX11_isOut_14 rfl ?_
    refine wp_iconst dX11_isOut_15 ⟨by decide, by decide⟩ ?_
    have c1 := k.1
    replace k := k.2
    refine wp_callV (ci := 8) (y' := mX11_throwing) (st := []) [jI 1] rfl rfl rfl fX11_throwing kX11_394 nX11_throwing dX11_isOut_16 (Nat.le_of_ble_eq_true rfl) c1 ?_
    refine jCall.mono k (fun o h16 k => ?_)
    obtain ⟨v16, e, k⟩ := k
    subst e
    show jWp (d + 1) mX11_isOut 19 [(0, jR a0), (1, jI a1)] [jI v16] h16 Q
    refine wp_if_eq 26 dX11_isOut_19 rfl (fun q => ?_) (fun q => ?_)
    · replace k := k.1 q
      refine wp_iconst dX11_isOut_26 ⟨by decide, by decide⟩ ?_
      exact wp_zreturn dX11_isOut_27 rfl (by decide) (by decide) k
    · replace k := k.2 q
      refine wp_iconst dX11_isOut_22 ⟨by decide, by decide⟩ ?_
      refine wp_goto 27 dX11_isOut_23 rfl ?_
      exact wp_zreturn dX11_isOut_27 rfl (by decide) (by decide) k
  · replace k := k.2 q
    refine wp_iload_n 1 dX11_isOut_4 rfl ?_
    refine wp_aload_n 0 dX11_isOut_5 rfl ?_
    have c2 := k.1
    replace k := k.2
    refine wp_getR (ci := 8) (j := 13) rfl (by decide) gX11_51 dX11_isOut_6 c2 rfl ?_
    refine wp_iconst dX11_isOut_9 ⟨by decide, by decide⟩ ?_
    have c3 := k.1
    replace k := k.2
    have c4 := k.1
    replace k := k.2
    have c5 := k.1
    replace k := k.2
    refine wp_iaload dX11_isOut_10 c3 c4 c5 (fun q => ?_)
    have f6 := q
    replace k := k q
    refine wp_icmp_lt 26 dX11_isOut_11 rfl (fun q => ?_) (fun q => ?_)
    · replace k := k.1 q
      refine wp_iconst dX11_isOut_26 ⟨by decide, by decide⟩ ?_
      exact wp_zreturn dX11_isOut_27 rfl (by decide) (by decide) k
    · replace k := k.2 q
      refine wp_aload_n 0 dX11_isOut_14 rfl ?_
      refine wp_iconst dX11_isOut_15 ⟨by decide, by decide⟩ ?_
      refine wp_callV (ci := 8) (y' := mX11_throwing) (st := []) [jI 1] rfl rfl rfl fX11_throwing kX11_394 nX11_throwing dX11_isOut_16 (Nat.le_of_ble_eq_true rfl) c2 ?_
      refine jCall.mono k (fun o h16_1 k => ?_)
      obtain ⟨v16_1, e, k⟩ := k
      subst e
      show jWp (d + 1) mX11_isOut 19 [(0, jR a0), (1, jI a1)] [jI v16_1] h16_1 Q
      refine wp_if_eq 26 dX11_isOut_19 rfl (fun q => ?_) (fun q => ?_)
      · replace k := k.1 q
        refine wp_iconst dX11_isOut_26 ⟨by decide, by decide⟩ ?_
        exact wp_zreturn dX11_isOut_27 rfl (by decide) (by decide) k
      · replace k := k.2 q
        refine wp_iconst dX11_isOut_22 ⟨by decide, by decide⟩ ?_
        refine wp_goto 27 dX11_isOut_23 rfl ?_
        exact wp_zreturn dX11_isOut_27 rfl (by decide) (by decide) k
theorem bX11_finds {d : Nat} {h : jH} {Q : jO → jH → Prop} {a0 : Nat} {a1 : Int} {a2 : Int} (k : jOK h → j32 a1 → j32 a2 → hK h a0 = 9 ∧ hK h (hR h 814 a0) = 10 ∧ 0 ≤ a1 ∧ a1 < hN h (hR h 814 a0) ∧ (j32 (hA h (hR h 814 a0) a1) → jWp d mX11_finds 13 [(0, jR a0), (1, jI a1), (2, jI a2), (3, jI (hA h (hR h 814 a0) a1)), (4, jI 0), (5, jI 0)] [] h Q)) : jCall d mX11_finds [jR a0, jI a1, jI a2] h Q := by
  refine jCall_of plX11 (Nat.le_of_ble_eq_true rfl) ?_
  show jWp d mX11_finds 0 [(0, jR a0), (1, jI a1), (2, jI a2)] [] h Q
  refine jw_ok (fun ok q => ?_)
  replace k := k ok (q _ (.tail _ (.head _))) (q _ (.tail _ (.tail _ (.head _))))
  refine wp_aload_n 0 dX11_finds_0 rfl ?_
  have c1 := k.1
  replace k := k.2
  refine wp_getR (ci := 8) (j := 14) rfl (by decide) gX11_54 dX11_finds_1 c1 rfl ?_
  refine wp_iload_n 1 dX11_finds_4 rfl ?_
  have c2 := k.1
  replace k := k.2
  have c3 := k.1
  replace k := k.2
  have c4 := k.1
  replace k := k.2
  refine wp_iaload dX11_finds_5 c2 c3 c4 (fun q => ?_)
  have f5 := q
  replace k := k q
  refine wp_istore_n [1, 2, 3, 0] (ls' := [(0, jR a0), (1, jI a1), (2, jI a2), (3, jI (hA h (hR h 814 a0) a1))]) dX11_finds_6 (by decide) rfl ?_
  refine wp_iconst dX11_finds_7 ⟨by decide, by decide⟩ ?_
  refine wp_istore [1, 2, 3, 4, 0] (ls' := [(0, jR a0), (1, jI a1), (2, jI a2), (3, jI (hA h (hR h 814 a0) a1)), (4, jI 0)]) dX11_finds_8 (by decide) rfl ?_
  refine wp_iconst dX11_finds_10 ⟨by decide, by decide⟩ ?_
  refine wp_istore [1, 2, 3, 4, 5, 0] (ls' := [(0, jR a0), (1, jI a1), (2, jI a2), (3, jI (hA h (hR h 814 a0) a1)), (4, jI 0), (5, jI 0)]) dX11_finds_11 (by decide) rfl ?_
  exact k
theorem bX11_finds_13 {d : Nat} {h : jH} {Q : jO → jH → Prop} {a0 : Nat} {a1 : Int} {a2 : Int} {a3 : Int} {a4 : Int} {a5 : Int} (k : jOK h → j32 a1 → j32 a2 → j32 a3 → j32 a4 → j32 a5 → hK h a0 = 9 ∧ hK h (hR h 805 a0) = 10 ∧ 0 ≤ a3 ∧ a3 < hN h (hR h 805 a0) ∧ (j32 (hA h (hR h 805 a0) a3) → (((hA h (hR h 805 a0) a3) ≤ a5 → Q (.inl (some (jI 0))) h) ∧ (¬ ((hA h (hR h 805 a0) a3) ≤ a5) → hK h (hR h 815 a0) = 10 ∧ 0 ≤ a1 ∧ a1 < hN h (hR h 815 a0) ∧ (j32 (hA h (hR h 815 a0) a1) → (((hA h (hR h 815 a0) a1) ≤ a4 → Q (.inl (some (jI 0))) h) ∧ (¬ ((hA h (hR h 815 a0) a1) ≤ a4) → hK h (hR h 804 a0) = 10 ∧ a3 < hN h (hR h 804 a0) ∧ (j32 (hA h (hR h 804 a0) a3) → j32 ((hA h (hR h 804 a0) a3) + a5) ∧ j32 ((hA h (hR h 815 a0) a1) - a4) ∧ hK h (hR h 809 a0) = 10 ∧ 0 ≤ ((hA h (hR h 804 a0) a3) + a5) ∧ ((hA h (hR h 804 a0) a3) + a5) < hN h (hR h 809 a0) ∧ (j32 (hA h (hR h 809 a0) ((hA h (hR h 804 a0) a3) + a5)) → (((hA h (hR h 809 a0) ((hA h (hR h 804 a0) a3) + a5)) ≤ ((hA h (hR h 815 a0) a1) - a4) → ((a5 ≠ a2 → (j32 (hI (sI (sI h 830 a0 a4) 831 a0 (hA h (hR h 809 a0) ((hA h (hR h 804 a0) a3) + a5))) 831 a0) → j32 (a4 + (hI (sI (sI h 830 a0 a4) 831 a0 (hA h (hR h 809 a0) ((hA h (hR h 804 a0) a3) + a5))) 831 a0)) ∧ j32 (a5 + 1) ∧ jWp d mX11_finds 13 [(0, jR a0), (1, jI a1), (2, jI a2), (3, jI a3), (4, jI (a4 + (hI (sI (sI h 830 a0 a4) 831 a0 (hA h (hR h 809 a0) ((hA h (hR h 804 a0) a3) + a5))) 831 a0))), (5, jI (a5 + 1))] [] (sI (sI h 830 a0 a4) 831 a0 (hA h (hR h 809 a0) ((hA h (hR h 804 a0) a3) + a5))) Q)) ∧ (a5 = a2 → Q (.inl (some (jI 1))) (sI (sI h 830 a0 a4) 831 a0 (hA h (hR h 809 a0) ((hA h (hR h 804 a0) a3) + a5)))))) ∧ (¬ ((hA h (hR h 809 a0) ((hA h (hR h 804 a0) a3) + a5)) ≤ ((hA h (hR h 815 a0) a1) - a4)) → ((a5 ≠ a2 → (j32 (hI (sI (sI h 830 a0 a4) 831 a0 ((hA h (hR h 815 a0) a1) - a4)) 831 a0) → j32 (a4 + (hI (sI (sI h 830 a0 a4) 831 a0 ((hA h (hR h 815 a0) a1) - a4)) 831 a0)) ∧ j32 (a5 + 1) ∧ jWp d mX11_finds 13 [(0, jR a0), (1, jI a1), (2, jI a2), (3, jI a3), (4, jI (a4 + (hI (sI (sI h 830 a0 a4) 831 a0 ((hA h (hR h 815 a0) a1) - a4)) 831 a0))), (5, jI (a5 + 1))] [] (sI (sI h 830 a0 a4) 831 a0 ((hA h (hR h 815 a0) a1) - a4)) Q)) ∧ (a5 = a2 → Q (.inl (some (jI 1))) (sI (sI h 830 a0 a4) 831 a0 ((hA h (hR h 815 a0) a1) - a4))))))))))))))) : jWp d mX11_finds 13 [(0, jR a0), (1, jI a1), (2, jI a2), (3, jI a3), (4, jI a4), (5, jI a5)] [] h Q := by
  refine jw_ok (fun ok q => ?_)
  replace k := k ok (q _ (.tail _ (.head _))) (q _ (.tail _ (.tail _ (.head _)))) (q _ (.tail _ (.tail _ (.tail _ (.head _))))) (q _ (.tail _ (.tail _ (.tail _ (.tail _ (.head _)))))) (q _ (.tail _ (.tail _ (.tail _ (.tail _ (.tail _ (.head _)))))))
  refine wp_iload 5 dX11_finds_13 rfl ?_
  refine wp_aload_n 0 dX11_finds_15 rfl ?_
  have c1 := k.1
  replace k := k.2
  refine wp_getR (ci := 8) (j := 5) rfl (by decide) gX11_25 dX11_finds_16 c1 rfl ?_
  refine wp_iload_n 3 dX11_finds_19 rfl ?_
  have c2 := k.1
  replace k := k.2
  have c3 := k.1
  replace k := k.2
  have c4 := k.1
  replace k := k.2
  refine wp_iaload dX11_finds_20 c2 c3 c4 (fun q => ?_)
  have f5 := q
  replace k := k q
  refine wp_icmp_ge 114 dX11_finds_21 rfl (fun q => ?_) (fun q => ?_)
  · replace k := k.1 q
    refine wp_iconst dX11_finds_114 ⟨by decide, by decide⟩ ?_
    exact wp_zreturn dX11_finds_115 rfl (by decide) (by decide) k
  · replace k := k.2 q
    refine wp_iload 4 dX11_finds_24 rfl ?_
    refine wp_aload_n 0 dX11_finds_26 rfl ?_
    refine wp_getR (ci := 8) (j := 15) rfl (by decide) gX11_57 dX11_finds_27 c1 rfl ?_
    refine wp_iload_n 1 dX11_finds_30 rfl ?_
    have c6 := k.1
    replace k := k.2
    have c7 := k.1
    replace k := k.2
    have c8 := k.1
    replace k := k.2
    refine wp_iaload dX11_finds_31 c6 c7 c8 (fun q => ?_)
    have f9 := q
    replace k := k q
    refine wp_icmp_ge 114 dX11_finds_32 rfl (fun q => ?_) (fun q => ?_)
    · replace k := k.1 q
      refine wp_iconst dX11_finds_114 ⟨by decide, by decide⟩ ?_
      exact wp_zreturn dX11_finds_115 rfl (by decide) (by decide) k
    · replace k := k.2 q
      refine wp_aload_n 0 dX11_finds_35 rfl ?_
      refine wp_getR (ci := 8) (j := 4) rfl (by decide) gX11_22 dX11_finds_36 c1 rfl ?_
      refine wp_iload_n 3 dX11_finds_39 rfl ?_
      have c10 := k.1
      replace k := k.2
      have c11 := k.1
      replace k := k.2
      refine wp_iaload dX11_finds_40 c10 c3 c11 (fun q => ?_)
      have f12 := q
      replace k := k q
      refine wp_iload 5 dX11_finds_41 rfl ?_
      have c13 := k.1
      replace k := k.2
      refine wp_iadd dX11_finds_43 c13 ?_
      refine wp_istore [1, 2, 3, 4, 5, 6, 0] (ls' := [(0, jR a0), (1, jI a1), (2, jI a2), (3, jI a3), (4, jI a4), (5, jI a5), (6, jI ((hA h (hR h 804 a0) a3) + a5))]) dX11_finds_44 (by decide) rfl ?_
      refine wp_aload_n 0 dX11_finds_46 rfl ?_
      refine wp_getR (ci := 8) (j := 15) rfl (by decide) gX11_57 dX11_finds_47 c1 rfl ?_
      refine wp_iload_n 1 dX11_finds_50 rfl ?_
      refine wp_iaload dX11_finds_51 c6 c7 c8 (fun q => ?_)
      refine wp_iload 4 dX11_finds_52 rfl ?_
      have c14 := k.1
      replace k := k.2
      refine wp_isub dX11_finds_54 c14 ?_
      refine wp_istore [1, 2, 3, 4, 5, 6, 7, 0] (ls' := [(0, jR a0), (1, jI a1), (2, jI a2), (3, jI a3), (4, jI a4), (5, jI a5), (6, jI ((hA h (hR h 804 a0) a3) + a5)), (7, jI ((hA h (hR h 815 a0) a1) - a4))]) dX11_finds_55 (by decide) rfl ?_
      refine wp_aload_n 0 dX11_finds_57 rfl ?_
      refine wp_iload 4 dX11_finds_58 rfl ?_
      refine wp_putI (ci := 8) (j := 30) rfl (by decide) gX11_104 dX11_finds_60 c1 (Or.inl rfl) rfl ?_
      refine wp_aload_n 0 dX11_finds_63 rfl ?_
      refine wp_iload 7 dX11_finds_64 rfl ?_
      refine wp_aload_n 0 dX11_finds_66 rfl ?_
      refine wp_getR (ci := 8) (j := 9) rfl (by decide) gX11_38 dX11_finds_67 c1 rfl ?_
      refine wp_iload 6 dX11_finds_70 rfl ?_
      have c15 := k.1
      replace k := k.2
      have c16 := k.1
      replace k := k.2
      have c17 := k.1
      replace k := k.2
      refine wp_iaload dX11_finds_72 c15 c16 c17 (fun q => ?_)
      have f18 := q
      replace k := k q
      refine wp_icmp_ge 81 dX11_finds_73 rfl (fun q => ?_) (fun q => ?_)
      · replace k := k.1 q
        refine wp_aload_n 0 dX11_finds_81 rfl ?_
        refine wp_getR (ci := 8) (j := 9) rfl (by decide) gX11_38 dX11_finds_82 c1 rfl ?_
        refine wp_iload 6 dX11_finds_85 rfl ?_
        refine wp_iaload dX11_finds_87 c15 c16 c17 (fun q => ?_)
        refine wp_putI (ci := 8) (j := 31) rfl (by decide) gX11_107 dX11_finds_88 c1 (Or.inl rfl) rfl ?_
        refine wp_iload 5 dX11_finds_91 rfl ?_
        refine wp_iload_n 2 dX11_finds_93 rfl ?_
        refine wp_icmp_ne 99 dX11_finds_94 rfl (fun q => ?_) (fun q => ?_)
        · replace k := k.1 q
          refine wp_iload 4 dX11_finds_99 rfl ?_
          refine wp_aload_n 0 dX11_finds_101 rfl ?_
          refine wp_getI (ci := 8) (j := 31) rfl (by decide) gX11_107 dX11_finds_102 c1 rfl (fun q => ?_)
          have f19 := q
          replace k := k q
          have c20 := k.1
          replace k := k.2
          refine wp_iadd dX11_finds_105 c20 ?_
          refine wp_istore [1, 2, 3, 4, 0, 5] (ls' := [(0, jR a0), (1, jI a1), (2, jI a2), (3, jI a3), (4, jI (a4 + (hI (sI (sI h 830 a0 a4) 831 a0 (hA h (hR h 809 a0) ((hA h (hR h 804 a0) a3) + a5))) 831 a0))), (5, jI a5)]) dX11_finds_106 (by decide) rfl ?_
          have c21 := k.1
          replace k := k.2
          refine wp_iinc 5 [1, 2, 3, 4, 5, 0] (ls' := [(0, jR a0), (1, jI a1), (2, jI a2), (3, jI a3), (4, jI (a4 + (hI (sI (sI h 830 a0 a4) 831 a0 (hA h (hR h 809 a0) ((hA h (hR h 804 a0) a3) + a5))) 831 a0))), (5, jI (a5 + 1))]) dX11_finds_108 rfl c21 ⟨by decide, by decide⟩ (by decide) rfl ?_
          refine wp_goto 13 dX11_finds_111 rfl ?_
          exact k
        · replace k := k.2 q
          refine wp_iconst dX11_finds_97 ⟨by decide, by decide⟩ ?_
          exact wp_zreturn dX11_finds_98 rfl (by decide) (by decide) k
      · replace k := k.2 q
        refine wp_iload 7 dX11_finds_76 rfl ?_
        refine wp_goto 88 dX11_finds_78 rfl ?_
        refine wp_putI (ci := 8) (j := 31) rfl (by decide) gX11_107 dX11_finds_88 c1 (Or.inl rfl) rfl ?_
        refine wp_iload 5 dX11_finds_91 rfl ?_
        refine wp_iload_n 2 dX11_finds_93 rfl ?_
        refine wp_icmp_ne 99 dX11_finds_94 rfl (fun q => ?_) (fun q => ?_)
        · replace k := k.1 q
          refine wp_iload 4 dX11_finds_99 rfl ?_
          refine wp_aload_n 0 dX11_finds_101 rfl ?_
          refine wp_getI (ci := 8) (j := 31) rfl (by decide) gX11_107 dX11_finds_102 c1 rfl (fun q => ?_)
          have f22 := q
          replace k := k q
          have c23 := k.1
          replace k := k.2
          refine wp_iadd dX11_finds_105 c23 ?_
          refine wp_istore [1, 2, 3, 4, 0, 5] (ls' := [(0, jR a0), (1, jI a1), (2, jI a2), (3, jI a3), (4, jI (a4 + (hI (sI (sI h 830 a0 a4) 831 a0 ((hA h (hR h 815 a0) a1) - a4)) 831 a0))), (5, jI a5)]) dX11_finds_106 (by decide) rfl ?_
          have c24 := k.1
          replace k := k.2
          refine wp_iinc 5 [1, 2, 3, 4, 5, 0] (ls' := [(0, jR a0), (1, jI a1), (2, jI a2), (3, jI a3), (4, jI (a4 + (hI (sI (sI h 830 a0 a4) 831 a0 ((hA h (hR h 815 a0) a1) - a4)) 831 a0))), (5, jI (a5 + 1))]) dX11_finds_108 rfl c24 ⟨by decide, by decide⟩ (by decide) rfl ?_
          refine wp_goto 13 dX11_finds_111 rfl ?_
          exact k
        · replace k := k.2 q
          refine wp_iconst dX11_finds_97 ⟨by decide, by decide⟩ ?_
          exact wp_zreturn dX11_finds_98 rfl (by decide) (by decide) k
theorem bX11_element {d : Nat} {h : jH} {Q : jO → jH → Prop} {a0 : Nat} {a1 : Int} {a2 : Int} (k : jOK h → j32 a1 → j32 a2 → hK h a0 = 9 ∧ jCall d mX11_isOut [jR a0, jI a1] (sI h 812 a0 0) (fun o h7 => ∃ v7, o = .inl (some (jI v7)) ∧ ((v7 = 0 → hK h7 a0 = 9 ∧ hK h7 (hR h7 814 a0) = 10 ∧ 0 ≤ a1 ∧ a1 < hN h7 (hR h7 814 a0) ∧ (j32 (hA h7 (hR h7 814 a0) a1) → ((a2 ≠ 0 → ((a2 ≠ 1 → ((a2 ≠ 2 → ((a2 ≠ 4 → ((a2 ≠ 5 → ((a2 = 3 → jWp (d + 1) mX11_element 98 [(0, jR a0), (1, jI a1), (3, jI (hA h7 (hR h7 814 a0) a1)), (4, jI 0)] [] h7 Q) ∧ (¬ (a2 = 3) → Q (.inl (some (jI (-1)))) h7))) ∧ (a2 = 5 → jCall d mX11_isFixed [jR a0, jI (hA h7 (hR h7 814 a0) a1)] h7 (fun o h76 => ∃ v76, o = .inl (some (jI v76)) ∧ ((v76 = 0 → Q (.inl (some (jI 0))) h76) ∧ (¬ (v76 = 0) → Q (.inl (some (jI 1))) h76)))))) ∧ (a2 = 4 → hK h7 (hR h7 803 a0) = 10 ∧ 0 ≤ (hA h7 (hR h7 814 a0) a1) ∧ (hA h7 (hR h7 814 a0) a1) < hN h7 (hR h7 803 a0) ∧ (j32 (hA h7 (hR h7 803 a0) (hA h7 (hR h7 814 a0) a1)) → Q (.inl (some (jI (hA h7 (hR h7 803 a0) (hA h7 (hR h7 814 a0) a1))))) h7)))) ∧ (a2 = 2 → hK h7 (hR h7 815 a0) = 10 ∧ a1 < hN h7 (hR h7 815 a0) ∧ (j32 (hA h7 (hR h7 815 a0) a1) → Q (.inl (some (jI (hA h7 (hR h7 815 a0) a1)))) h7)))) ∧ (a2 = 1 → hK h7 (hR h7 802 a0) = 10 ∧ 0 ≤ (hA h7 (hR h7 814 a0) a1) ∧ (hA h7 (hR h7 814 a0) a1) < hN h7 (hR h7 802 a0) ∧ (j32 (hA h7 (hR h7 802 a0) (hA h7 (hR h7 814 a0) a1)) → Q (.inl (some (jI (hA h7 (hR h7 802 a0) (hA h7 (hR h7 814 a0) a1))))) h7)))) ∧ (a2 = 0 → hK h7 (hR h7 801 a0) = 10 ∧ 0 ≤ (hA h7 (hR h7 814 a0) a1) ∧ (hA h7 (hR h7 814 a0) a1) < hN h7 (hR h7 801 a0) ∧ (j32 (hA h7 (hR h7 801 a0) (hA h7 (hR h7 814 a0) a1)) → Q (.inl (some (jI (hA h7 (hR h7 801 a0) (hA h7 (hR h7 814 a0) a1))))) h7))))) ∧ (¬ (v7 = 0) → Q (.inl (some (jI (-1)))) h7)))) : jCall (d + 1) mX11_element [jR a0, jI a1, jI a2] h Q := by
  refine jCall_of plX11 (Nat.le_of_ble_eq_true rfl) ?_
  show jWp (d + 1) mX11_element 0 [(0, jR a0), (1, jI a1), (2, jI a2)] [] h Q
  refine jw_ok (fun ok q => ?_)
  replace k := k ok (q _ (.tail _ (.head _))) (q _ (.tail _ (.tail _ (.head _))))
  refine wp_aload_n 0 dX11_element_0 rfl ?_
  refine wp_iconst dX11_element_1 ⟨by decide, by decide⟩ ?_
  have c1 := k.1
  replace k := k.2
  refine wp_putI (ci := 8) (j := 12) rfl (by decide) gX11_48 dX11_element_2 c1 (Or.inl rfl) rfl ?_
  refine wp_aload_n 0 dX11_element_5 rfl ?_
  refine wp_iload_n 1 dX11_element_6 rfl ?_
  refine wp_callV (ci := 8) (y' := mX11_isOut) (st := []) [jI a1] rfl rfl rfl fX11_isOut kX11_397 nX11_isOut dX11_element_7 (Nat.le_of_ble_eq_true rfl) c1 ?_
  refine jCall.mono k (fun o h7 k => ?_)
  obtain ⟨v7, e, k⟩ := k
  subst e
  show jWp (d + 1) mX11_element 10 [(0, jR a0), (1, jI a1), (2, jI a2)] [jI v7] h7 Q
  refine wp_if_eq 15 dX11_element_10 rfl (fun q => ?_) (fun q => ?_)
  · replace k := k.1 q
    refine wp_aload_n 0 dX11_element_15 rfl ?_
    have c2 := k.1
    replace k := k.2
    refine wp_getR (ci := 8) (j := 14) rfl (by decide) gX11_54 dX11_element_16 c2 rfl ?_
    refine wp_iload_n 1 dX11_element_19 rfl ?_
    have c3 := k.1
    replace k := k.2
    have c4 := k.1
    replace k := k.2
    have c5 := k.1
    replace k := k.2
    refine wp_iaload dX11_element_20 c3 c4 c5 (fun q => ?_)
    have f6 := q
    replace k := k q
    refine wp_istore_n [1, 2, 3, 0] (ls' := [(0, jR a0), (1, jI a1), (2, jI a2), (3, jI (hA h7 (hR h7 814 a0) a1))]) dX11_element_21 (by decide) rfl ?_
    refine wp_iload_n 2 dX11_element_22 rfl ?_
    refine wp_if_ne 33 dX11_element_23 rfl (fun q => ?_) (fun q => ?_)
    · replace k := k.1 q
      refine wp_iload_n 2 dX11_element_33 rfl ?_
      refine wp_iconst dX11_element_34 ⟨by decide, by decide⟩ ?_
      refine wp_icmp_ne 45 dX11_element_35 rfl (fun q => ?_) (fun q => ?_)
      · replace k := k.1 q
        refine wp_iload_n 2 dX11_element_45 rfl ?_
        refine wp_iconst dX11_element_46 ⟨by decide, by decide⟩ ?_
        refine wp_icmp_ne 57 dX11_element_47 rfl (fun q => ?_) (fun q => ?_)
        · replace k := k.1 q
          refine wp_iload_n 2 dX11_element_57 rfl ?_
          refine wp_iconst dX11_element_58 ⟨by decide, by decide⟩ ?_
          refine wp_icmp_ne 69 dX11_element_59 rfl (fun q => ?_) (fun q => ?_)
          · replace k := k.1 q
            refine wp_iload_n 2 dX11_element_69 rfl ?_
            refine wp_iconst dX11_element_70 ⟨by decide, by decide⟩ ?_
            refine wp_icmp_ne 88 dX11_element_71 rfl (fun q => ?_) (fun q => ?_)
            · replace k := k.1 q
              refine wp_iload_n 2 dX11_element_88 rfl ?_
              refine wp_iconst dX11_element_89 ⟨by decide, by decide⟩ ?_
              refine wp_icmp_eq 95 dX11_element_90 rfl (fun q => ?_) (fun q => ?_)
              · replace k := k.1 q
                refine wp_iconst dX11_element_95 ⟨by decide, by decide⟩ ?_
                refine wp_istore [1, 2, 4, 0] (ls' := [(0, jR a0), (1, jI a1), (3, jI (hA h7 (hR h7 814 a0) a1)), (4, jI 0)]) dX11_element_96 (by decide) rfl ?_
                exact k
              · replace k := k.2 q
                refine wp_iconst dX11_element_93 ⟨by decide, by decide⟩ ?_
                exact wp_iret dX11_element_94 rfl k
            · replace k := k.2 q
              refine wp_aload_n 0 dX11_element_74 rfl ?_
              refine wp_iload_n 3 dX11_element_75 rfl ?_
              refine wp_callV (ci := 8) (y' := mX11_isFixed) (st := []) [jI (hA h7 (hR h7 814 a0) a1)] rfl rfl rfl fX11_isFixed kX11_317 nX11_isFixed dX11_element_76 (Nat.le_of_ble_eq_true rfl) c2 ?_
              refine jCall.mono k (fun o h76 k => ?_)
              obtain ⟨v76, e, k⟩ := k
              subst e
              show jWp (d + 1) mX11_element 79 [(0, jR a0), (1, jI a1), (2, jI a2), (3, jI (hA h7 (hR h7 814 a0) a1))] [jI v76] h76 Q
              refine wp_if_eq 86 dX11_element_79 rfl (fun q => ?_) (fun q => ?_)
              · replace k := k.1 q
                refine wp_iconst dX11_element_86 ⟨by decide, by decide⟩ ?_
                exact wp_iret dX11_element_87 rfl k
              · replace k := k.2 q
                refine wp_iconst dX11_element_82 ⟨by decide, by decide⟩ ?_
                refine wp_goto 87 dX11_element_83 rfl ?_
                exact wp_iret dX11_element_87 rfl k
          · replace k := k.2 q
            refine wp_aload_n 0 dX11_element_62 rfl ?_
            refine wp_getR (ci := 8) (j := 3) rfl (by decide) gX11_19 dX11_element_63 c2 rfl ?_
            refine wp_iload_n 3 dX11_element_66 rfl ?_
            have c7 := k.1
            replace k := k.2
            have c8 := k.1
            replace k := k.2
            have c9 := k.1
            replace k := k.2
            refine wp_iaload dX11_element_67 c7 c8 c9 (fun q => ?_)
            have f10 := q
            replace k := k q
            exact wp_iret dX11_element_68 rfl k
        · replace k := k.2 q
          refine wp_aload_n 0 dX11_element_50 rfl ?_
          refine wp_getR (ci := 8) (j := 15) rfl (by decide) gX11_57 dX11_element_51 c2 rfl ?_
          refine wp_iload_n 1 dX11_element_54 rfl ?_
          have c11 := k.1
          replace k := k.2
          have c12 := k.1
          replace k := k.2
          refine wp_iaload dX11_element_55 c11 c4 c12 (fun q => ?_)
          have f13 := q
          replace k := k q
          exact wp_iret dX11_element_56 rfl k
      · replace k := k.2 q
        refine wp_aload_n 0 dX11_element_38 rfl ?_
        refine wp_getR (ci := 8) (j := 2) rfl (by decide) gX11_16 dX11_element_39 c2 rfl ?_
        refine wp_iload_n 3 dX11_element_42 rfl ?_
        have c14 := k.1
        replace k := k.2
        have c15 := k.1
        replace k := k.2
        have c16 := k.1
        replace k := k.2
        refine wp_iaload dX11_element_43 c14 c15 c16 (fun q => ?_)
        have f17 := q
        replace k := k q
        exact wp_iret dX11_element_44 rfl k
    · replace k := k.2 q
      refine wp_aload_n 0 dX11_element_26 rfl ?_
      refine wp_getR (ci := 8) (j := 1) rfl (by decide) gX11_13 dX11_element_27 c2 rfl ?_
      refine wp_iload_n 3 dX11_element_30 rfl ?_
      have c18 := k.1
      replace k := k.2
      have c19 := k.1
      replace k := k.2
      have c20 := k.1
      replace k := k.2
      refine wp_iaload dX11_element_31 c18 c19 c20 (fun q => ?_)
      have f21 := q
      replace k := k q
      exact wp_iret dX11_element_32 rfl k
  · replace k := k.2 q
    refine wp_iconst dX11_element_13 ⟨by decide, by decide⟩ ?_
    exact wp_iret dX11_element_14 rfl k
theorem bX11_element_98 {d : Nat} {h : jH} {Q : jO → jH → Prop} {a0 : Nat} {a1 : Int} {a3 : Int} {a4 : Int} (k : jOK h → j32 a1 → j32 a3 → j32 a4 → hK h a0 = 9 ∧ hK h (hR h 805 a0) = 10 ∧ 0 ≤ a3 ∧ a3 < hN h (hR h 805 a0) ∧ (j32 (hA h (hR h 805 a0) a3) → (((hA h (hR h 805 a0) a3) ≤ a4 → Q (.inl (some (jI a4))) h) ∧ (¬ ((hA h (hR h 805 a0) a3) ≤ a4) → jCall d mX11_finds [jR a0, jI a1, jI a4] h (fun o h113 => ∃ v113, o = .inl (some (jI v113)) ∧ ((v113 = 0 → Q (.inl (some (jI a4))) h113) ∧ (¬ (v113 = 0) → j32 (a4 + 1) ∧ jWp (d + 1) mX11_element 98 [(0, jR a0), (1, jI a1), (3, jI a3), (4, jI (a4 + 1))] [] h113 Q))))))) : jWp (d + 1) mX11_element 98 [(0, jR a0), (1, jI a1), (3, jI a3), (4, jI a4)] [] h Q := by
  refine jw_ok (fun ok q => ?_)
  replace k := k ok (q _ (.tail _ (.head _))) (q _ (.tail _ (.tail _ (.head _)))) (q _ (.tail _ (.tail _ (.tail _ (.head _)))))
  refine wp_iload 3 dX11_element_98 rfl ?_
  refine wp_aload_n 0 dX11_element_100 rfl ?_
  have c1 := k.1
  replace k := k.2
  refine wp_getR (ci := 8) (j := 5) rfl (by decide) gX11_25 dX11_element_101 c1 rfl ?_
  refine wp_iload_n 2 dX11_element_104 rfl ?_
  have c2 := k.1
  replace k := k.2
  have c3 := k.1
  replace k := k.2
  have c4 := k.1
  replace k := k.2
  refine wp_iaload dX11_element_105 c2 c3 c4 (fun q => ?_)
  have f5 := q
  replace k := k q
  refine wp_icmp_ge 125 dX11_element_106 rfl (fun q => ?_) (fun q => ?_)
  · replace k := k.1 q
    refine wp_iload 3 dX11_element_125 rfl ?_
    exact wp_iret dX11_element_127 rfl k
  · replace k := k.2 q
    refine wp_aload_n 0 dX11_element_109 rfl ?_
    refine wp_iload_n 1 dX11_element_110 rfl ?_
    refine wp_iload 3 dX11_element_111 rfl ?_
    refine wp_callV (ci := 8) (y' := mX11_finds) (st := []) [jI a1, jI a4] rfl rfl rfl fX11_finds kX11_400 nX11_finds dX11_element_113 (Nat.le_of_ble_eq_true rfl) c1 ?_
    refine jCall.mono k (fun o h113 k => ?_)
    obtain ⟨v113, e, k⟩ := k
    subst e
    show jWp (d + 1) mX11_element 116 [(0, jR a0), (1, jI a1), (3, jI a3), (4, jI a4)] [jI v113] h113 Q
    refine wp_if_eq 125 dX11_element_116 rfl (fun q => ?_) (fun q => ?_)
    · replace k := k.1 q
      refine wp_iload 3 dX11_element_125 rfl ?_
      exact wp_iret dX11_element_127 rfl k
    · replace k := k.2 q
      have c6 := k.1
      replace k := k.2
      refine wp_iinc 3 [1, 2, 3, 0] (ls' := [(0, jR a0), (1, jI a1), (3, jI a3), (4, jI (a4 + 1))]) dX11_element_119 rfl c6 ⟨by decide, by decide⟩ (by decide) rfl ?_
      refine wp_goto 98 dX11_element_122 rfl ?_
      exact k
