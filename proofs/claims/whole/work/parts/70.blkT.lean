/-! BLOCKS OF METHODS THAT THROW (made by wip/whole/gen/genthr.py) -/
theorem bX10_elementAt {d : Nat} {h : jH} {Q : jO → jH → Prop} {a0 : Nat} {a1 : Int} (k : jOK h → j32 a1 → hK h a0 = 8 ∧ hK h (hR h 705 a0) = 5 ∧ jCall (d + 5) mX6_at [jR (hR h 705 a0), jI a1] h (fun o h5 => ∃ v5, o = .inl (some (jR v5)) ∧ ((v5 ≠ 0 → Q (.inl (some (jR v5))) h5) ∧ (¬ (v5 ≠ 0) → Q (.inr "java/lang/IndexOutOfBoundsException") (sN h5 16 0 6))))) : jCall (d + 6) mX10_elementAt [jR a0, jI a1] h Q := by
  refine jCall_of plX10 (Nat.le_of_ble_eq_true rfl) ?_
  show jWp (d + 6) mX10_elementAt 0 [(0, jR a0), (1, jI a1)] [] h Q
  refine jw_ok (fun ok q => ?_)
  replace k := k ok (q _ (.tail _ (.head _)))
  refine wp_aload_n 0 dX10_elementAt_0 rfl ?_
  have c1 := k.1
  replace k := k.2
  refine wp_getR (ci := 7) (j := 5) rfl (by decide) gX10_33 dX10_elementAt_1 c1 rfl ?_
  refine wp_iload_n 1 dX10_elementAt_4 rfl ?_
  have c2 := k.1
  replace k := k.2
  refine wp_callV (ci := 4) (y' := mX6_at) (st := []) [jI a1] rfl rfl rfl fX6_at kX10_160 nX6_at dX10_elementAt_5 (Nat.le_of_ble_eq_true rfl) c2 ?_
  refine jCall.mono k (fun o h5 k => ?_)
  obtain ⟨v5, e, k⟩ := k
  subst e
  show jWp (d + 6) mX10_elementAt 8 [(0, jR a0), (1, jI a1)] [jR v5] h5 Q
  refine wp_astore_n [0] (ls' := [(2, jR v5)]) dX10_elementAt_8 (by decide) rfl ?_
  refine wp_aload_n 0 dX10_elementAt_9 rfl ?_
  refine wp_ifnonnull 23 dX10_elementAt_10 rfl (fun q => ?_) (fun q => ?_)
  · replace k := k.1 q
    refine wp_aload_n 0 dX10_elementAt_23 rfl ?_
    exact wp_areturn dX10_elementAt_24 rfl k
  · replace k := k.2 q
    exact wp_throw (cls := "java/lang/IndexOutOfBoundsException") th_io_fit thN_fit (by decide) qX10_163 th_io_ini (fun G s t => t.2.1) th_io_at th_io_good rfl dX10_elementAt_13 dX10_elementAt_16 dX10_elementAt_17 dX10_elementAt_19 dX10_elementAt_22 (by decide) k
theorem bX10_shelfAt {d : Nat} {h : jH} {Q : jO → jH → Prop} {a0 : Nat} {a1 : Int} (k : jOK h → j32 a1 → ((a1 < 0 → Q (.inr "java/lang/IndexOutOfBoundsException") (sN h 16 0 6)) ∧ (¬ (a1 < 0) → ((a1 < 8 → hK h a0 = 8 ∧ hK h (hR h 707 a0) = 15 ∧ 0 ≤ a1 ∧ a1 < hN h (hR h 707 a0) ∧ Q (.inl (some (jR (hQ h (hR h 707 a0) a1)))) h) ∧ (¬ (a1 < 8) → Q (.inr "java/lang/IndexOutOfBoundsException") (sN h 16 0 6)))))) : jCall (d + 6) mX10_shelfAt [jR a0, jI a1] h Q := by
  refine jCall_of plX10 (Nat.le_of_ble_eq_true rfl) ?_
  show jWp (d + 6) mX10_shelfAt 0 [(0, jR a0), (1, jI a1)] [] h Q
  refine jw_ok (fun ok q => ?_)
  replace k := k ok (q _ (.tail _ (.head _)))
  refine wp_iload_n 1 dX10_shelfAt_0 rfl ?_
  refine wp_if_lt 10 dX10_shelfAt_1 rfl (fun q => ?_) (fun q => ?_)
  · replace k := k.1 q
    exact wp_throw (cls := "java/lang/IndexOutOfBoundsException") th_io_fit thN_fit (by decide) qX10_163 th_io_ini (fun G s t => t.2.2.2.2.1) th_io_at th_io_good rfl dX10_shelfAt_10 dX10_shelfAt_13 dX10_shelfAt_14 dX10_shelfAt_16 dX10_shelfAt_19 (by decide) k
  · replace k := k.2 q
    refine wp_iload_n 1 dX10_shelfAt_4 rfl ?_
    refine wp_bipush dX10_shelfAt_5 ⟨by decide, by decide⟩ ?_
    refine wp_icmp_lt 20 dX10_shelfAt_7 rfl (fun q => ?_) (fun q => ?_)
    · replace k := k.1 q
      refine wp_aload_n 0 dX10_shelfAt_20 rfl ?_
      have c1 := k.1
      replace k := k.2
      refine wp_getR (ci := 7) (j := 7) rfl (by decide) gX10_40 dX10_shelfAt_21 c1 rfl ?_
      refine wp_iload_n 1 dX10_shelfAt_24 rfl ?_
      have c2 := k.1
      replace k := k.2
      have c3 := k.1
      replace k := k.2
      have c4 := k.1
      replace k := k.2
      refine wp_aaload (n := 15) dX10_shelfAt_25 c2 (by decide) c3 c4 ?_
      exact wp_areturn dX10_shelfAt_26 rfl k
    · replace k := k.2 q
      exact wp_throw (cls := "java/lang/IndexOutOfBoundsException") th_io_fit thN_fit (by decide) qX10_163 th_io_ini (fun G s t => t.2.2.2.2.1) th_io_at th_io_good rfl dX10_shelfAt_10 dX10_shelfAt_13 dX10_shelfAt_14 dX10_shelfAt_16 dX10_shelfAt_19 (by decide) k
