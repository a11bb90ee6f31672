/-! BLOCKS (made by wip/whole/gen/genblk.py) -/
theorem bX11_letter {d : Nat} {h : jH} {Q : jO → jH → Prop} {a0 : Nat} {a1 : Int} {a2 : Int} (k : jOK h → j32 a1 → j32 a2 → hK h a0 = 9 ∧ jCall d mX11_isOut [jR a0, jI a1] (sI h 812 a0 0) (fun o h7 => ∃ v7, o = .inl (some (jI v7)) ∧ ((v7 = 0 → ((a2 < 0 → Q (.inl (some (jI (-1)))) h7) ∧ (¬ (a2 < 0) → hK h7 a0 = 9 ∧ hK h7 (hR h7 815 a0) = 10 ∧ 0 ≤ a1 ∧ a1 < hN h7 (hR h7 815 a0) ∧ (j32 (hA h7 (hR h7 815 a0) a1) → ((a2 < (hA h7 (hR h7 815 a0) a1) → j32 (90 * a1) ∧ j32 ((90 * a1) + a2) ∧ hK h7 (hR h7 817 a0) = 11 ∧ 0 ≤ ((90 * a1) + a2) ∧ ((90 * a1) + a2) < hN h7 (hR h7 817 a0) ∧ ((-128 ≤ hA h7 (hR h7 817 a0) ((90 * a1) + a2) ∧ hA h7 (hR h7 817 a0) ((90 * a1) + a2) ≤ 127) → Q (.inl (some (jI (hA h7 (hR h7 817 a0) ((90 * a1) + a2))))) h7)) ∧ (¬ (a2 < (hA h7 (hR h7 815 a0) a1)) → Q (.inl (some (jI (-1)))) h7)))))) ∧ (¬ (v7 = 0) → Q (.inl (some (jI (-1)))) h7)))) : jCall (d + 1) mX11_letter [jR a0, jI a1, jI a2] h Q := by
  refine jCall_of plX11 (Nat.le_of_ble_eq_true rfl) ?_
  show jWp (d + 1) mX11_letter 0 [(0, jR a0), (1, jI a1), (2, jI a2)] [] h Q
  refine jw_ok (fun ok q => ?_)
  replace k := k ok (q _ (.tail _ (.head _))) (q _ (.tail _ (.tail _ (.head _))))
  refine wp_aload_n 0 dX11_letter_0 rfl ?_
  refine wp_iconst dX11_letter_1 ⟨by decide, by decide⟩ ?_
  have c1 := k.1
  replace k := k.2
  refine wp_putI (ci := 8) (j := 12) rfl (by decide) gX11_48 dX11_letter_2 c1 (Or.inl rfl) rfl ?_
  refine wp_aload_n 0 dX11_letter_5 rfl ?_
  refine wp_iload_n 1 dX11_letter_6 rfl ?_
  refine wp_callV (ci := 8) (y' := mX11_isOut) (st := []) [jI a1] rfl rfl rfl fX11_isOut kX11_397 nX11_isOut dX11_letter_7 (Nat.le_of_ble_eq_true rfl) c1 ?_
  refine jCall.mono k (fun o h7 k => ?_)
  obtain ⟨v7, e, k⟩ := k
  subst e
  show jWp (d + 1) mX11_letter 10 [(0, jR a0), (1, jI a1), (2, jI a2)] [jI v7] h7 Q
  refine wp_if_eq 15 dX11_letter_10 rfl (fun q => ?_) (fun q => ?_)
  · replace k := k.1 q
    refine wp_iload_n 2 dX11_letter_15 rfl ?_
    refine wp_if_lt 29 dX11_letter_16 rfl (fun q => ?_) (fun q => ?_)
    · replace k := k.1 q
      refine wp_iconst dX11_letter_29 ⟨by decide, by decide⟩ ?_
      refine wp_goto 44 dX11_letter_30 rfl ?_
      exact wp_iret dX11_letter_44 rfl k
    · replace k := k.2 q
      refine wp_iload_n 2 dX11_letter_19 rfl ?_
      refine wp_aload_n 0 dX11_letter_20 rfl ?_
      have c2 := k.1
      replace k := k.2
      refine wp_getR (ci := 8) (j := 15) rfl (by decide) gX11_57 dX11_letter_21 c2 rfl ?_
      refine wp_iload_n 1 dX11_letter_24 rfl ?_
      have c3 := k.1
      replace k := k.2
      have c4 := k.1
      replace k := k.2
      have c5 := k.1
      replace k := k.2
      refine wp_iaload dX11_letter_25 c3 c4 c5 (fun q => ?_)
      have f6 := q
      replace k := k q
      refine wp_icmp_lt 33 dX11_letter_26 rfl (fun q => ?_) (fun q => ?_)
      · replace k := k.1 q
        refine wp_aload_n 0 dX11_letter_33 rfl ?_
        refine wp_getR (ci := 8) (j := 17) rfl (by decide) gX11_63 dX11_letter_34 c2 rfl ?_
        refine wp_bipush dX11_letter_37 ⟨by decide, by decide⟩ ?_
        refine wp_iload_n 1 dX11_letter_39 rfl ?_
        have c7 := k.1
        replace k := k.2
        refine wp_imul dX11_letter_40 c7 ?_
        refine wp_iload_n 2 dX11_letter_41 rfl ?_
        have c8 := k.1
        replace k := k.2
        refine wp_iadd dX11_letter_42 c8 ?_
        have c9 := k.1
        replace k := k.2
        have c10 := k.1
        replace k := k.2
        have c11 := k.1
        replace k := k.2
        refine wp_baload dX11_letter_43 c9 c10 c11 (fun q => ?_)
        have f12 := q
        replace k := k q
        exact wp_iret dX11_letter_44 rfl k
      · replace k := k.2 q
        refine wp_iconst dX11_letter_29 ⟨by decide, by decide⟩ ?_
        refine wp_goto 44 dX11_letter_30 rfl ?_
        exact wp_iret dX11_letter_44 rfl k
  · replace k := k.2 q
    refine wp_iconst dX11_letter_13 ⟨by decide, by decide⟩ ?_
    exact wp_iret dX11_letter_14 rfl k
theorem bX11_sortOf {d : Nat} {h : jH} {Q : jO → jH → Prop} {a0 : Nat} {a1 : Int} {a2 : Int} (k : jOK h → j32 a1 → j32 a2 → hK h a0 = 9 ∧ hK h (hR h 814 a0) = 10 ∧ 0 ≤ a1 ∧ a1 < hN h (hR h 814 a0) ∧ (j32 (hA h (hR h 814 a0) a1) → hK h (hR h 804 a0) = 10 ∧ 0 ≤ (hA h (hR h 814 a0) a1) ∧ (hA h (hR h 814 a0) a1) < hN h (hR h 804 a0) ∧ (j32 (hA h (hR h 804 a0) (hA h (hR h 814 a0) a1)) → j32 ((hA h (hR h 804 a0) (hA h (hR h 814 a0) a1)) + a2) ∧ hK h (hR h 807 a0) = 10 ∧ 0 ≤ ((hA h (hR h 804 a0) (hA h (hR h 814 a0) a1)) + a2) ∧ ((hA h (hR h 804 a0) (hA h (hR h 814 a0) a1)) + a2) < hN h (hR h 807 a0) ∧ (j32 (hA h (hR h 807 a0) ((hA h (hR h 804 a0) (hA h (hR h 814 a0) a1)) + a2)) → Q (.inl (some (jI (hA h (hR h 807 a0) ((hA h (hR h 804 a0) (hA h (hR h 814 a0) a1)) + a2))))) h)))) : jCall d mX11_sortOf [jR a0, jI a1, jI a2] h Q := by
  refine jCall_of plX11 (Nat.le_of_ble_eq_true rfl) ?_
  show jWp d mX11_sortOf 0 [(0, jR a0), (1, jI a1), (2, jI a2)] [] h Q
  refine jw_ok (fun ok q => ?_)
  replace k := k ok (q _ (.tail _ (.head _))) (q _ (.tail _ (.tail _ (.head _))))
  refine wp_aload_n 0 dX11_sortOf_0 rfl ?_
  have c1 := k.1
  replace k := k.2
  refine wp_getR (ci := 8) (j := 7) rfl (by decide) gX11_32 dX11_sortOf_1 c1 rfl ?_
  refine wp_aload_n 0 dX11_sortOf_4 rfl ?_
  refine wp_getR (ci := 8) (j := 4) rfl (by decide) gX11_22 dX11_sortOf_5 c1 rfl ?_
  refine wp_aload_n 0 dX11_sortOf_8 rfl ?_
  refine wp_getR (ci := 8) (j := 14) rfl (by decide) gX11_54 dX11_sortOf_9 c1 rfl ?_
  refine wp_iload_n 1 dX11_sortOf_12 rfl ?_
  have c2 := k.1
  replace k := k.2
  have c3 := k.1
  replace k := k.2
  have c4 := k.1
  replace k := k.2
  refine wp_iaload dX11_sortOf_13 c2 c3 c4 (fun q => ?_)
  have f5 := q
  replace k := k q
  have c6 := k.1
  replace k := k.2
  have c7 := k.1
  replace k := k.2
  have c8 := k.1
  replace k := k.2
  refine wp_iaload dX11_sortOf_14 c6 c7 c8 (fun q => ?_)
  have f9 := q
  replace k := k q
  refine wp_iload_n 2 dX11_sortOf_15 rfl ?_
  have c10 := k.1
  replace k := k.2
  refine wp_iadd dX11_sortOf_16 c10 ?_
  have c11 := k.1
  replace k := k.2
  have c12 := k.1
  replace k := k.2
  have c13 := k.1
  replace k := k.2
  refine wp_iaload dX11_sortOf_17 c11 c12 c13 (fun q => ?_)
  have f14 := q
  replace k := k q
  exact wp_iret dX11_sortOf_18 rfl k
theorem bX11_part {d : Nat} {h : jH} {Q : jO → jH → Prop} {a0 : Nat} {a1 : Int} {a2 : Int} {a3 : Int} (k : jOK h → j32 a1 → j32 a2 → j32 a3 → hK h a0 = 9 ∧ jCall d mX11_isOut [jR a0, jI a1] (sI h 812 a0 0) (fun o h7 => ∃ v7, o = .inl (some (jI v7)) ∧ ((v7 = 0 → ((a2 < 0 → Q (.inl (some (jI (-1)))) h7) ∧ (¬ (a2 < 0) → hK h7 a0 = 9 ∧ jCall d mX11_finds [jR a0, jI a1, jI a2] h7 (fun o h22 => ∃ v22, o = .inl (some (jI v22)) ∧ ((v22 ≠ 0 → ((a3 ≠ 0 → ((a3 ≠ 1 → ((a3 ≠ 2 → Q (.inl (some (jI (-1)))) h22) ∧ (a3 = 2 → hK h22 a0 = 9 ∧ (j32 (hI h22 831 a0) → Q (.inl (some (jI (hI h22 831 a0)))) h22)))) ∧ (a3 = 1 → hK h22 a0 = 9 ∧ (j32 (hI h22 830 a0) → Q (.inl (some (jI (hI h22 830 a0)))) h22)))) ∧ (a3 = 0 → hK h22 a0 = 9 ∧ jCall d mX11_sortOf [jR a0, jI a1, jI a2] h22 (fun o h37 => ∃ v37, o = .inl (some (jI v37)) ∧ Q (.inl (some (jI v37))) h37)))) ∧ (v22 = 0 → Q (.inl (some (jI (-1)))) h22)))))) ∧ (¬ (v7 = 0) → Q (.inl (some (jI (-1)))) h7)))) : jCall (d + 1) mX11_part [jR a0, jI a1, jI a2, jI a3] h Q := by
  refine jCall_of plX11 (Nat.le_of_ble_eq_true rfl) ?_
  show jWp (d + 1) mX11_part 0 [(0, jR a0), (1, jI a1), (2, jI a2), (3, jI a3)] [] h Q
  refine jw_ok (fun ok q => ?_)
  replace k := k ok (q _ (.tail _ (.head _))) (q _ (.tail _ (.tail _ (.head _)))) (q _ (.tail _ (.tail _ (.tail _ (.head _)))))
  refine wp_aload_n 0 dX11_part_0 rfl ?_
  refine wp_iconst dX11_part_1 ⟨by decide, by decide⟩ ?_
  have c1 := k.1
  replace k := k.2
  refine wp_putI (ci := 8) (j := 12) rfl (by decide) gX11_48 dX11_part_2 c1 (Or.inl rfl) rfl ?_
  refine wp_aload_n 0 dX11_part_5 rfl ?_
  refine wp_iload_n 1 dX11_part_6 rfl ?_
  refine wp_callV (ci := 8) (y' := mX11_isOut) (st := []) [jI a1] rfl rfl rfl fX11_isOut kX11_397 nX11_isOut dX11_part_7 (Nat.le_of_ble_eq_true rfl) c1 ?_
  refine jCall.mono k (fun o h7 k => ?_)
  obtain ⟨v7, e, k⟩ := k
  subst e
  show jWp (d + 1) mX11_part 10 [(0, jR a0), (1, jI a1), (2, jI a2), (3, jI a3)] [jI v7] h7 Q
  refine wp_if_eq 15 dX11_part_10 rfl (fun q => ?_) (fun q => ?_)
  · replace k := k.1 q
    refine wp_iload_n 2 dX11_part_15 rfl ?_
    refine wp_if_lt 28 dX11_part_16 rfl (fun q => ?_) (fun q => ?_)
    · replace k := k.1 q
      refine wp_iconst dX11_part_28 ⟨by decide, by decide⟩ ?_
      exact wp_iret dX11_part_29 rfl k
    · replace k := k.2 q
      refine wp_aload_n 0 dX11_part_19 rfl ?_
      refine wp_iload_n 1 dX11_part_20 rfl ?_
      refine wp_iload_n 2 dX11_part_21 rfl ?_
      have c2 := k.1
      replace k := k.2
      refine wp_callV (ci := 8) (y' := mX11_finds) (st := []) [jI a1, jI a2] rfl rfl rfl fX11_finds kX11_400 nX11_finds dX11_part_22 (Nat.le_of_ble_eq_true rfl) c2 ?_
      refine jCall.mono k (fun o h22 k => ?_)
      obtain ⟨v22, e, k⟩ := k
      subst e
      show jWp (d + 1) mX11_part 25 [(0, jR a0), (1, jI a1), (2, jI a2), (3, jI a3)] [jI v22] h22 Q
      refine wp_if_ne 30 dX11_part_25 rfl (fun q => ?_) (fun q => ?_)
      · replace k := k.1 q
        refine wp_iload_n 3 dX11_part_30 rfl ?_
        refine wp_if_ne 41 dX11_part_31 rfl (fun q => ?_) (fun q => ?_)
        · replace k := k.1 q
          refine wp_iload_n 3 dX11_part_41 rfl ?_
          refine wp_iconst dX11_part_42 ⟨by decide, by decide⟩ ?_
          refine wp_icmp_ne 51 dX11_part_43 rfl (fun q => ?_) (fun q => ?_)
          · replace k := k.1 q
            refine wp_iload_n 3 dX11_part_51 rfl ?_
            refine wp_iconst dX11_part_52 ⟨by decide, by decide⟩ ?_
            refine wp_icmp_ne 63 dX11_part_53 rfl (fun q => ?_) (fun q => ?_)
            · replace k := k.1 q
              refine wp_iconst dX11_part_63 ⟨by decide, by decide⟩ ?_
              exact wp_iret dX11_part_64 rfl k
            · replace k := k.2 q
              refine wp_aload_n 0 dX11_part_56 rfl ?_
              have c3 := k.1
              replace k := k.2
              refine wp_getI (ci := 8) (j := 31) rfl (by decide) gX11_107 dX11_part_57 c3 rfl (fun q => ?_)
              have f4 := q
              replace k := k q
              refine wp_goto 64 dX11_part_60 rfl ?_
              exact wp_iret dX11_part_64 rfl k
          · replace k := k.2 q
            refine wp_aload_n 0 dX11_part_46 rfl ?_
            have c5 := k.1
            replace k := k.2
            refine wp_getI (ci := 8) (j := 30) rfl (by decide) gX11_104 dX11_part_47 c5 rfl (fun q => ?_)
            have f6 := q
            replace k := k q
            exact wp_iret dX11_part_50 rfl k
        · replace k := k.2 q
          refine wp_aload_n 0 dX11_part_34 rfl ?_
          refine wp_iload_n 1 dX11_part_35 rfl ?_
          refine wp_iload_n 2 dX11_part_36 rfl ?_
          have c7 := k.1
          replace k := k.2
          refine wp_callV (ci := 8) (y' := mX11_sortOf) (st := []) [jI a1, jI a2] rfl rfl rfl fX11_sortOf kX11_403 nX11_sortOf dX11_part_37 (Nat.le_of_ble_eq_true rfl) c7 ?_
          refine jCall.mono k (fun o h37 k => ?_)
          obtain ⟨v37, e, k⟩ := k
          subst e
          show jWp (d + 1) mX11_part 40 [(0, jR a0), (1, jI a1), (2, jI a2), (3, jI a3)] [jI v37] h37 Q
          exact wp_iret dX11_part_40 rfl k
      · replace k := k.2 q
        refine wp_iconst dX11_part_28 ⟨by decide, by decide⟩ ?_
        exact wp_iret dX11_part_29 rfl k
  · replace k := k.2 q
    refine wp_iconst dX11_part_13 ⟨by decide, by decide⟩ ?_
    exact wp_iret dX11_part_14 rfl k
theorem bX11_number {d : Nat} {h : jH} {Q : jO → jH → Prop} {a0 : Nat} {a1 : Int} {a2 : Int} (k : jOK h → j32 a1 → j32 a2 → hK h a0 = 9 ∧ jCall d mX11_isOut [jR a0, jI a1] (sI h 812 a0 0) (fun o h7 => ∃ v7, o = .inl (some (jI v7)) ∧ ((v7 = 0 → ((a2 < 0 → hK h7 a0 = 9 ∧ jCall d mX11_throwing [jR a0, jI 2] h7 (fun o h32 => ∃ v32, o = .inl (some (jI v32)) ∧ ((v32 = 0 → hK h32 a0 = 9 ∧ jCall d mX11_sortOf [jR a0, jI a1, jI a2] h32 (fun o h45 => ∃ v45, o = .inl (some (jI v45)) ∧ ((v45 ≠ 2 → jWp (d + 1) mX11_number 61 [(0, jR a0), (1, jI a1), (3, jL 0), (5, jI 0)] [] h45 Q) ∧ (v45 = 2 → Q (.inl (some (jL (-1)))) h45)))) ∧ (¬ (v32 = 0) → Q (.inl (some (jL (-1)))) h32)))) ∧ (¬ (a2 < 0) → hK h7 a0 = 9 ∧ jCall d mX11_finds [jR a0, jI a1, jI a2] h7 (fun o h24 => ∃ v24, o = .inl (some (jI v24)) ∧ ((v24 ≠ 0 → hK h24 a0 = 9 ∧ jCall d mX11_sortOf [jR a0, jI a1, jI a2] h24 (fun o h45_1 => ∃ v45_1, o = .inl (some (jI v45_1)) ∧ ((v45_1 ≠ 2 → jWp (d + 1) mX11_number 61 [(0, jR a0), (1, jI a1), (3, jL 0), (5, jI 0)] [] h45_1 Q) ∧ (v45_1 = 2 → Q (.inl (some (jL (-1)))) h45_1)))) ∧ (v24 = 0 → hK h24 a0 = 9 ∧ jCall d mX11_throwing [jR a0, jI 2] h24 (fun o h32_1 => ∃ v32_1, o = .inl (some (jI v32_1)) ∧ ((v32_1 = 0 → hK h32_1 a0 = 9 ∧ jCall d mX11_sortOf [jR a0, jI a1, jI a2] h32_1 (fun o h45_2 => ∃ v45_2, o = .inl (some (jI v45_2)) ∧ ((v45_2 ≠ 2 → jWp (d + 1) mX11_number 61 [(0, jR a0), (1, jI a1), (3, jL 0), (5, jI 0)] [] h45_2 Q) ∧ (v45_2 = 2 → Q (.inl (some (jL (-1)))) h45_2)))) ∧ (¬ (v32_1 = 0) → Q (.inl (some (jL (-1)))) h32_1))))))))) ∧ (¬ (v7 = 0) → Q (.inl (some (jL (-1)))) h7)))) : jCall (d + 1) mX11_number [jR a0, jI a1, jI a2] h Q := by
  refine jCall_of plX11 (Nat.le_of_ble_eq_true rfl) ?_
  show jWp (d + 1) mX11_number 0 [(0, jR a0), (1, jI a1), (2, jI a2)] [] h Q
  refine jw_ok (fun ok q => ?_)
  replace k := k ok (q _ (.tail _ (.head _))) (q _ (.tail _ (.tail _ (.head _))))
  refine wp_aload_n 0 dX11_number_0 rfl ?_
  refine wp_iconst dX11_number_1 ⟨by decide, by decide⟩ ?_
  have c1 := k.1
  replace k := k.2
  refine wp_putI (ci := 8) (j := 12) rfl (by decide) gX11_48 dX11_number_2 c1 (Or.inl rfl) rfl ?_
  refine wp_aload_n 0 dX11_number_5 rfl ?_
  refine wp_iload_n 1 dX11_number_6 rfl ?_
  refine wp_callV (ci := 8) (y' := mX11_isOut) (st := []) [jI a1] rfl rfl rfl fX11_isOut kX11_397 nX11_isOut dX11_number_7 (Nat.le_of_ble_eq_true rfl) c1 ?_
  refine jCall.mono k (fun o h7 k => ?_)
  obtain ⟨v7, e, k⟩ := k
  subst e
  show jWp (d + 1) mX11_number 10 [(0, jR a0), (1, jI a1), (2, jI a2)] [jI v7] h7 Q
  refine wp_if_eq 17 dX11_number_10 rfl (fun q => ?_) (fun q => ?_)
  · replace k := k.1 q
    refine wp_iload_n 2 dX11_number_17 rfl ?_
    refine wp_if_lt 30 dX11_number_18 rfl (fun q => ?_) (fun q => ?_)
    · replace k := k.1 q
      refine wp_aload_n 0 dX11_number_30 rfl ?_
      refine wp_iconst dX11_number_31 ⟨by decide, by decide⟩ ?_
      have c2 := k.1
      replace k := k.2
      refine wp_callV (ci := 8) (y' := mX11_throwing) (st := []) [jI 2] rfl rfl rfl fX11_throwing kX11_394 nX11_throwing dX11_number_32 (Nat.le_of_ble_eq_true rfl) c2 ?_
      refine jCall.mono k (fun o h32 k => ?_)
      obtain ⟨v32, e, k⟩ := k
      subst e
      show jWp (d + 1) mX11_number 35 [(0, jR a0), (1, jI a1), (2, jI a2)] [jI v32] h32 Q
      refine wp_if_eq 42 dX11_number_35 rfl (fun q => ?_) (fun q => ?_)
      · replace k := k.1 q
        refine wp_aload_n 0 dX11_number_42 rfl ?_
        refine wp_iload_n 1 dX11_number_43 rfl ?_
        refine wp_iload_n 2 dX11_number_44 rfl ?_
        have c3 := k.1
        replace k := k.2
        refine wp_callV (ci := 8) (y' := mX11_sortOf) (st := []) [jI a1, jI a2] rfl rfl rfl fX11_sortOf kX11_403 nX11_sortOf dX11_number_45 (Nat.le_of_ble_eq_true rfl) c3 ?_
        refine jCall.mono k (fun o h45 k => ?_)
        obtain ⟨v45, e, k⟩ := k
        subst e
        show jWp (d + 1) mX11_number 48 [(0, jR a0), (1, jI a1), (2, jI a2)] [jI v45] h45 Q
        refine wp_iconst dX11_number_48 ⟨by decide, by decide⟩ ?_
        refine wp_icmp_ne 56 dX11_number_49 rfl (fun q => ?_) (fun q => ?_)
        · replace k := k.1 q
          refine wp_lconst (z := 0) dX11_number_56 rfl ?_
          refine wp_lstore_n [1, 2, 0] (ls' := [(0, jR a0), (1, jI a1), (3, jL 0)]) dX11_number_57 (by decide) rfl ?_
          refine wp_iconst dX11_number_58 ⟨by decide, by decide⟩ ?_
          refine wp_istore [1, 2, 3, 0] (ls' := [(0, jR a0), (1, jI a1), (3, jL 0), (5, jI 0)]) dX11_number_59 (by decide) rfl ?_
          exact k
        · replace k := k.2 q
          refine wp_ldc2 dX11_number_52 eX11_406 rfl ⟨by decide, by decide⟩ ?_
          exact wp_lret dX11_number_55 rfl k
      · replace k := k.2 q
        refine wp_ldc2 dX11_number_38 eX11_406 rfl ⟨by decide, by decide⟩ ?_
        exact wp_lret dX11_number_41 rfl k
    · replace k := k.2 q
      refine wp_aload_n 0 dX11_number_21 rfl ?_
      refine wp_iload_n 1 dX11_number_22 rfl ?_
      refine wp_iload_n 2 dX11_number_23 rfl ?_
      have c4 := k.1
      replace k := k.2
      refine wp_callV (ci := 8) (y' := mX11_finds) (st := []) [jI a1, jI a2] rfl rfl rfl fX11_finds kX11_400 nX11_finds dX11_number_24 (Nat.le_of_ble_eq_true rfl) c4 ?_
      refine jCall.mono k (fun o h24 k => ?_)
      obtain ⟨v24, e, k⟩ := k
      subst e
      show jWp (d + 1) mX11_number 27 [(0, jR a0), (1, jI a1), (2, jI a2)] [jI v24] h24 Q
      refine wp_if_ne 42 dX11_number_27 rfl (fun q => ?_) (fun q => ?_)
      · replace k := k.1 q
        refine wp_aload_n 0 dX11_number_42 rfl ?_
        refine wp_iload_n 1 dX11_number_43 rfl ?_
        refine wp_iload_n 2 dX11_number_44 rfl ?_
        have c5 := k.1
        replace k := k.2
        refine wp_callV (ci := 8) (y' := mX11_sortOf) (st := []) [jI a1, jI a2] rfl rfl rfl fX11_sortOf kX11_403 nX11_sortOf dX11_number_45 (Nat.le_of_ble_eq_true rfl) c5 ?_
        refine jCall.mono k (fun o h45_1 k => ?_)
        obtain ⟨v45_1, e, k⟩ := k
        subst e
        show jWp (d + 1) mX11_number 48 [(0, jR a0), (1, jI a1), (2, jI a2)] [jI v45_1] h45_1 Q
        refine wp_iconst dX11_number_48 ⟨by decide, by decide⟩ ?_
        refine wp_icmp_ne 56 dX11_number_49 rfl (fun q => ?_) (fun q => ?_)
        · replace k := k.1 q
          refine wp_lconst (z := 0) dX11_number_56 rfl ?_
          refine wp_lstore_n [1, 2, 0] (ls' := [(0, jR a0), (1, jI a1), (3, jL 0)]) dX11_number_57 (by decide) rfl ?_
          refine wp_iconst dX11_number_58 ⟨by decide, by decide⟩ ?_
          refine wp_istore [1, 2, 3, 0] (ls' := [(0, jR a0), (1, jI a1), (3, jL 0), (5, jI 0)]) dX11_number_59 (by decide) rfl ?_
          exact k
        · replace k := k.2 q
          refine wp_ldc2 dX11_number_52 eX11_406 rfl ⟨by decide, by decide⟩ ?_
          exact wp_lret dX11_number_55 rfl k
      · replace k := k.2 q
        refine wp_aload_n 0 dX11_number_30 rfl ?_
        refine wp_iconst dX11_number_31 ⟨by decide, by decide⟩ ?_
        have c6 := k.1
        replace k := k.2
        refine wp_callV (ci := 8) (y' := mX11_throwing) (st := []) [jI 2] rfl rfl rfl fX11_throwing kX11_394 nX11_throwing dX11_number_32 (Nat.le_of_ble_eq_true rfl) c6 ?_
        refine jCall.mono k (fun o h32_1 k => ?_)
        obtain ⟨v32_1, e, k⟩ := k
        subst e
        show jWp (d + 1) mX11_number 35 [(0, jR a0), (1, jI a1), (2, jI a2)] [jI v32_1] h32_1 Q
        refine wp_if_eq 42 dX11_number_35 rfl (fun q => ?_) (fun q => ?_)
        · replace k := k.1 q
          refine wp_aload_n 0 dX11_number_42 rfl ?_
          refine wp_iload_n 1 dX11_number_43 rfl ?_
          refine wp_iload_n 2 dX11_number_44 rfl ?_
          have c7 := k.1
          replace k := k.2
          refine wp_callV (ci := 8) (y' := mX11_sortOf) (st := []) [jI a1, jI a2] rfl rfl rfl fX11_sortOf kX11_403 nX11_sortOf dX11_number_45 (Nat.le_of_ble_eq_true rfl) c7 ?_
          refine jCall.mono k (fun o h45_2 k => ?_)
          obtain ⟨v45_2, e, k⟩ := k
          subst e
          show jWp (d + 1) mX11_number 48 [(0, jR a0), (1, jI a1), (2, jI a2)] [jI v45_2] h45_2 Q
          refine wp_iconst dX11_number_48 ⟨by decide, by decide⟩ ?_
          refine wp_icmp_ne 56 dX11_number_49 rfl (fun q => ?_) (fun q => ?_)
          · replace k := k.1 q
            refine wp_lconst (z := 0) dX11_number_56 rfl ?_
            refine wp_lstore_n [1, 2, 0] (ls' := [(0, jR a0), (1, jI a1), (3, jL 0)]) dX11_number_57 (by decide) rfl ?_
            refine wp_iconst dX11_number_58 ⟨by decide, by decide⟩ ?_
            refine wp_istore [1, 2, 3, 0] (ls' := [(0, jR a0), (1, jI a1), (3, jL 0), (5, jI 0)]) dX11_number_59 (by decide) rfl ?_
            exact k
          · replace k := k.2 q
            refine wp_ldc2 dX11_number_52 eX11_406 rfl ⟨by decide, by decide⟩ ?_
            exact wp_lret dX11_number_55 rfl k
        · replace k := k.2 q
          refine wp_ldc2 dX11_number_38 eX11_406 rfl ⟨by decide, by decide⟩ ?_
          exact wp_lret dX11_number_41 rfl k
  · replace k := k.2 q
    refine wp_ldc2 dX11_number_13 eX11_406 rfl ⟨by decide, by decide⟩ ?_
    exact wp_lret dX11_number_16 rfl k
theorem bX11_number_61 {d : Nat} {h : jH} {Q : jO → jH → Prop} {a0 : Nat} {a1 : Int} {a3 : Int} {a5 : Int} (k : jOK h → j32 a1 → j64 a3 → j32 a5 → hK h a0 = 9 ∧ (j32 (hI h 831 a0) → (((hI h 831 a0) ≤ a5 → Q (.inl (some (jL a3))) h) ∧ (¬ ((hI h 831 a0) ≤ a5) → j64 (10 * a3) ∧ j32 (90 * a1) ∧ (j32 (hI h 830 a0) → j32 ((90 * a1) + (hI h 830 a0)) ∧ j32 (((90 * a1) + (hI h 830 a0)) + a5) ∧ hK h (hR h 817 a0) = 11 ∧ 0 ≤ (((90 * a1) + (hI h 830 a0)) + a5) ∧ (((90 * a1) + (hI h 830 a0)) + a5) < hN h (hR h 817 a0) ∧ ((-128 ≤ hA h (hR h 817 a0) (((90 * a1) + (hI h 830 a0)) + a5) ∧ hA h (hR h 817 a0) (((90 * a1) + (hI h 830 a0)) + a5) ≤ 127) → j32 ((hA h (hR h 817 a0) (((90 * a1) + (hI h 830 a0)) + a5)) - 48) ∧ j64 ((10 * a3) + ((hA h (hR h 817 a0) (((90 * a1) + (hI h 830 a0)) + a5)) - 48)) ∧ j32 (a5 + 1) ∧ jWp (d + 1) mX11_number 61 [(0, jR a0), (1, jI a1), (3, jL ((10 * a3) + ((hA h (hR h 817 a0) (((90 * a1) + (hI h 830 a0)) + a5)) - 48))), (5, jI (a5 + 1))] [] h Q)))))) : jWp (d + 1) mX11_number 61 [(0, jR a0), (1, jI a1), (3, jL a3), (5, jI a5)] [] h Q := by
  refine jw_ok (fun ok q => ?_)
  replace k := k ok (q _ (.tail _ (.head _))) (q _ (.tail _ (.tail _ (.head _)))) (q _ (.tail _ (.tail _ (.tail _ (.head _)))))
  refine wp_iload 3 dX11_number_61 rfl ?_
  refine wp_aload_n 0 dX11_number_63 rfl ?_
  have c1 := k.1
  replace k := k.2
  refine wp_getI (ci := 8) (j := 31) rfl (by decide) gX11_107 dX11_number_64 c1 rfl (fun q => ?_)
  have f2 := q
  replace k := k q
  refine wp_icmp_ge 104 dX11_number_67 rfl (fun q => ?_) (fun q => ?_)
  · replace k := k.1 q
    refine wp_lload_n 2 dX11_number_104 rfl ?_
    exact wp_lret dX11_number_105 rfl k
  · replace k := k.2 q
    refine wp_ldc2 dX11_number_70 eX11_408 rfl ⟨by decide, by decide⟩ ?_
    refine wp_lload_n 2 dX11_number_73 rfl ?_
    have c3 := k.1
    replace k := k.2
    refine wp_lmul dX11_number_74 c3 ?_
    refine wp_aload_n 0 dX11_number_75 rfl ?_
    refine wp_getR (ci := 8) (j := 17) rfl (by decide) gX11_63 dX11_number_76 c1 rfl ?_
    refine wp_bipush dX11_number_79 ⟨by decide, by decide⟩ ?_
    refine wp_iload_n 1 dX11_number_81 rfl ?_
    have c4 := k.1
    replace k := k.2
    refine wp_imul dX11_number_82 c4 ?_
    refine wp_aload_n 0 dX11_number_83 rfl ?_
    refine wp_getI (ci := 8) (j := 30) rfl (by decide) gX11_104 dX11_number_84 c1 rfl (fun q => ?_)
    have f5 := q
    replace k := k q
    have c6 := k.1
    replace k := k.2
    refine wp_iadd dX11_number_87 c6 ?_
    refine wp_iload 3 dX11_number_88 rfl ?_
    have c7 := k.1
    replace k := k.2
    refine wp_iadd dX11_number_90 c7 ?_
    have c8 := k.1
    replace k := k.2
    have c9 := k.1
    replace k := k.2
    have c10 := k.1
    replace k := k.2
    refine wp_baload dX11_number_91 c8 c9 c10 (fun q => ?_)
    have f11 := q
    replace k := k q
    refine wp_bipush dX11_number_92 ⟨by decide, by decide⟩ ?_
    have c12 := k.1
    replace k := k.2
    refine wp_isub dX11_number_94 c12 ?_
    refine wp_i2l dX11_number_95 ?_
    have c13 := k.1
    replace k := k.2
    refine wp_ladd dX11_number_96 c13 ?_
    refine wp_lstore_n [1, 2, 0, 3] (ls' := [(0, jR a0), (1, jI a1), (3, jL ((10 * a3) + ((hA h (hR h 817 a0) (((90 * a1) + (hI h 830 a0)) + a5)) - 48))), (5, jI a5)]) dX11_number_97 (by decide) rfl ?_
    have c14 := k.1
    replace k := k.2
    refine wp_iinc 3 [1, 2, 3, 0] (ls' := [(0, jR a0), (1, jI a1), (3, jL ((10 * a3) + ((hA h (hR h 817 a0) (((90 * a1) + (hI h 830 a0)) + a5)) - 48))), (5, jI (a5 + 1))]) dX11_number_98 rfl c14 ⟨by decide, by decide⟩ (by decide) rfl ?_
    refine wp_goto 61 dX11_number_101 rfl ?_
    exact k
theorem bX11_date {d : Nat} {h : jH} {Q : jO → jH → Prop} {a0 : Nat} {a1 : Int} {a2 : Int} {a3 : Int} (k : jOK h → j32 a1 → j32 a2 → j32 a3 → hK h a0 = 9 ∧ jCall d mX11_isOut [jR a0, jI a1] (sI h 812 a0 0) (fun o h7 => ∃ v7, o = .inl (some (jI v7)) ∧ ((v7 = 0 → ((a2 < 0 → hK h7 a0 = 9 ∧ jCall d mX11_throwing [jR a0, jI 2] h7 (fun o h40 => ∃ v40, o = .inl (some (jI v40)) ∧ ((v40 = 0 → jWp (d + 1) mX11_date 48 [(0, jR a0), (1, jI a1), (3, jI a3)] [] h40 Q) ∧ (¬ (v40 = 0) → Q (.inl (some (jI (-1)))) h40)))) ∧ (¬ (a2 < 0) → hK h7 a0 = 9 ∧ jCall d mX11_finds [jR a0, jI a1, jI a2] h7 (fun o h22 => ∃ v22, o = .inl (some (jI v22)) ∧ ((v22 = 0 → hK h22 a0 = 9 ∧ jCall d mX11_throwing [jR a0, jI 2] h22 (fun o h40_1 => ∃ v40_1, o = .inl (some (jI v40_1)) ∧ ((v40_1 = 0 → jWp (d + 1) mX11_date 48 [(0, jR a0), (1, jI a1), (3, jI a3)] [] h40_1 Q) ∧ (¬ (v40_1 = 0) → Q (.inl (some (jI (-1)))) h40_1)))) ∧ (¬ (v22 = 0) → hK h22 a0 = 9 ∧ jCall d mX11_sortOf [jR a0, jI a1, jI a2] h22 (fun o h31 => ∃ v31, o = .inl (some (jI v31)) ∧ ((v31 = 4 → jWp (d + 1) mX11_date 48 [(0, jR a0), (1, jI a1), (3, jI a3)] [] h31 Q) ∧ (¬ (v31 = 4) → hK h31 a0 = 9 ∧ jCall d mX11_throwing [jR a0, jI 2] h31 (fun o h40_2 => ∃ v40_2, o = .inl (some (jI v40_2)) ∧ ((v40_2 = 0 → jWp (d + 1) mX11_date 48 [(0, jR a0), (1, jI a1), (3, jI a3)] [] h40_2 Q) ∧ (¬ (v40_2 = 0) → Q (.inl (some (jI (-1)))) h40_2)))))))))))) ∧ (¬ (v7 = 0) → Q (.inl (some (jI (-1)))) h7)))) : jCall (d + 1) mX11_date [jR a0, jI a1, jI a2, jI a3] h Q := by
  refine jCall_of plX11 (Nat.le_of_ble_eq_true rfl) ?_
  show jWp (d + 1) mX11_date 0 [(0, jR a0), (1, jI a1), (2, jI a2), (3, jI a3)] [] h Q
  refine jw_ok (fun ok q => ?_)
  replace k := k ok (q _ (.tail _ (.head _))) (q _ (.tail _ (.tail _ (.head _)))) (q _ (.tail _ (.tail _ (.tail _ (.head _)))))
  refine wp_aload_n 0 dX11_date_0 rfl ?_
  refine wp_iconst dX11_date_1 ⟨by decide, by decide⟩ ?_
  have c1 := k.1
  replace k := k.2
  refine wp_putI (ci := 8) (j := 12) rfl (by decide) gX11_48 dX11_date_2 c1 (Or.inl rfl) rfl ?_
  refine wp_aload_n 0 dX11_date_5 rfl ?_
  refine wp_iload_n 1 dX11_date_6 rfl ?_
  refine wp_callV (ci := 8) (y' := mX11_isOut) (st := []) [jI a1] rfl rfl rfl fX11_isOut kX11_397 nX11_isOut dX11_date_7 (Nat.le_of_ble_eq_true rfl) c1 ?_
  refine jCall.mono k (fun o h7 k => ?_)
  obtain ⟨v7, e, k⟩ := k
  subst e
  show jWp (d + 1) mX11_date 10 [(0, jR a0), (1, jI a1), (2, jI a2), (3, jI a3)] [jI v7] h7 Q
  refine wp_if_eq 15 dX11_date_10 rfl (fun q => ?_) (fun q => ?_)
  · replace k := k.1 q
    refine wp_iload_n 2 dX11_date_15 rfl ?_
    refine wp_if_lt 38 dX11_date_16 rfl (fun q => ?_) (fun q => ?_)
    · replace k := k.1 q
      refine wp_aload_n 0 dX11_date_38 rfl ?_
      refine wp_iconst dX11_date_39 ⟨by decide, by decide⟩ ?_
      have c2 := k.1
      replace k := k.2
      refine wp_callV (ci := 8) (y' := mX11_throwing) (st := []) [jI 2] rfl rfl rfl fX11_throwing kX11_394 nX11_throwing dX11_date_40 (Nat.le_of_ble_eq_true rfl) c2 ?_
      refine jCall.mono k (fun o h40 k => ?_)
      obtain ⟨v40, e, k⟩ := k
      subst e
      show jWp (d + 1) mX11_date 43 [(0, jR a0), (1, jI a1), (2, jI a2), (3, jI a3)] [jI v40] h40 Q
      refine wp_if_eq 48 dX11_date_43 rfl (fun q => ?_) (fun q => ?_)
      · replace k := k.1 q
        refine wp_sub [0, 1, 3] (ls' := [(0, jR a0), (1, jI a1), (3, jI a3)]) rfl ?_
        exact k
      · replace k := k.2 q
        refine wp_iconst dX11_date_46 ⟨by decide, by decide⟩ ?_
        exact wp_iret dX11_date_47 rfl k
    · replace k := k.2 q
      refine wp_aload_n 0 dX11_date_19 rfl ?_
      refine wp_iload_n 1 dX11_date_20 rfl ?_
      refine wp_iload_n 2 dX11_date_21 rfl ?_
      have c3 := k.1
      replace k := k.2
      refine wp_callV (ci := 8) (y' := mX11_finds) (st := []) [jI a1, jI a2] rfl rfl rfl fX11_finds kX11_400 nX11_finds dX11_date_22 (Nat.le_of_ble_eq_true rfl) c3 ?_
      refine jCall.mono k (fun o h22 k => ?_)
      obtain ⟨v22, e, k⟩ := k
      subst e
      show jWp (d + 1) mX11_date 25 [(0, jR a0), (1, jI a1), (2, jI a2), (3, jI a3)] [jI v22] h22 Q
      refine wp_if_eq 38 dX11_date_25 rfl (fun q => ?_) (fun q => ?_)
      · replace k := k.1 q
        refine wp_aload_n 0 dX11_date_38 rfl ?_
        refine wp_iconst dX11_date_39 ⟨by decide, by decide⟩ ?_
        have c4 := k.1
        replace k := k.2
        refine wp_callV (ci := 8) (y' := mX11_throwing) (st := []) [jI 2] rfl rfl rfl fX11_throwing kX11_394 nX11_throwing dX11_date_40 (Nat.le_of_ble_eq_true rfl) c4 ?_
        refine jCall.mono k (fun o h40_1 k => ?_)
        obtain ⟨v40_1, e, k⟩ := k
        subst e
        show jWp (d + 1) mX11_date 43 [(0, jR a0), (1, jI a1), (2, jI a2), (3, jI a3)] [jI v40_1] h40_1 Q
        refine wp_if_eq 48 dX11_date_43 rfl (fun q => ?_) (fun q => ?_)
        · replace k := k.1 q
          refine wp_sub [0, 1, 3] (ls' := [(0, jR a0), (1, jI a1), (3, jI a3)]) rfl ?_
          exact k
        · replace k := k.2 q
          refine wp_iconst dX11_date_46 ⟨by decide, by decide⟩ ?_
          exact wp_iret dX11_date_47 rfl k
      · replace k := k.2 q
        refine wp_aload_n 0 dX11_date_28 rfl ?_
        refine wp_iload_n 1 dX11_date_29 rfl ?_
        refine wp_iload_n 2 dX11_date_30 rfl ?_
        have c5 := k.1
        replace k := k.2
        refine wp_callV (ci := 8) (y' := mX11_sortOf) (st := []) [jI a1, jI a2] rfl rfl rfl fX11_sortOf kX11_403 nX11_sortOf dX11_date_31 (Nat.le_of_ble_eq_true rfl) c5 ?_
        refine jCall.mono k (fun o h31 k => ?_)
        obtain ⟨v31, e, k⟩ := k
        subst e
        show jWp (d + 1) mX11_date 34 [(0, jR a0), (1, jI a1), (2, jI a2), (3, jI a3)] [jI v31] h31 Q
        refine wp_iconst dX11_date_34 ⟨by decide, by decide⟩ ?_
        refine wp_icmp_eq 48 dX11_date_35 rfl (fun q => ?_) (fun q => ?_)
        · replace k := k.1 q
          refine wp_sub [0, 1, 3] (ls' := [(0, jR a0), (1, jI a1), (3, jI a3)]) rfl ?_
          exact k
        · replace k := k.2 q
          refine wp_aload_n 0 dX11_date_38 rfl ?_
          refine wp_iconst dX11_date_39 ⟨by decide, by decide⟩ ?_
          have c6 := k.1
          replace k := k.2
          refine wp_callV (ci := 8) (y' := mX11_throwing) (st := []) [jI 2] rfl rfl rfl fX11_throwing kX11_394 nX11_throwing dX11_date_40 (Nat.le_of_ble_eq_true rfl) c6 ?_
          refine jCall.mono k (fun o h40_2 k => ?_)
          obtain ⟨v40_2, e, k⟩ := k
          subst e
          show jWp (d + 1) mX11_date 43 [(0, jR a0), (1, jI a1), (2, jI a2), (3, jI a3)] [jI v40_2] h40_2 Q
          refine wp_if_eq 48 dX11_date_43 rfl (fun q => ?_) (fun q => ?_)
          · replace k := k.1 q
            refine wp_sub [0, 1, 3] (ls' := [(0, jR a0), (1, jI a1), (3, jI a3)]) rfl ?_
            exact k
          · replace k := k.2 q
            refine wp_iconst dX11_date_46 ⟨by decide, by decide⟩ ?_
            exact wp_iret dX11_date_47 rfl k
  · replace k := k.2 q
    refine wp_iconst dX11_date_13 ⟨by decide, by decide⟩ ?_
    exact wp_iret dX11_date_14 rfl k
theorem bX11_date_48 {d : Nat} {h : jH} {Q : jO → jH → Prop} {a0 : Nat} {a1 : Int} {a3 : Int} (k : jOK h → j32 a1 → j32 a3 → j32 (90 * a1) ∧ hK h a0 = 9 ∧ (j32 (hI h 830 a0) → j32 ((90 * a1) + (hI h 830 a0)) ∧ j32 (2 * a1) ∧ (((hI h 830 a0) ≠ 0 → jWp (d + 1) mX11_date 78 [(0, jR a0), (3, jI a3), (4, jI ((90 * a1) + (hI h 830 a0)))] [jI 1, jI (2 * a1), jR (hR h 816 a0)] h Q) ∧ ((hI h 830 a0) = 0 → jWp (d + 1) mX11_date 78 [(0, jR a0), (3, jI a3), (4, jI ((90 * a1) + (hI h 830 a0)))] [jI 0, jI (2 * a1), jR (hR h 816 a0)] h Q)))) : jWp (d + 1) mX11_date 48 [(0, jR a0), (1, jI a1), (3, jI a3)] [] h Q := by
  refine jw_ok (fun ok q => ?_)
  replace k := k ok (q _ (.tail _ (.head _))) (q _ (.tail _ (.tail _ (.head _))))
  refine wp_bipush dX11_date_48 ⟨by decide, by decide⟩ ?_
  refine wp_iload_n 1 dX11_date_50 rfl ?_
  have c1 := k.1
  replace k := k.2
  refine wp_imul dX11_date_51 c1 ?_
  refine wp_aload_n 0 dX11_date_52 rfl ?_
  have c2 := k.1
  replace k := k.2
  refine wp_getI (ci := 8) (j := 30) rfl (by decide) gX11_104 dX11_date_53 c2 rfl (fun q => ?_)
  have f3 := q
  replace k := k q
  have c4 := k.1
  replace k := k.2
  refine wp_iadd dX11_date_56 c4 ?_
  refine wp_istore [1, 2, 3, 0] (ls' := [(0, jR a0), (1, jI a1), (3, jI a3), (4, jI ((90 * a1) + (hI h 830 a0)))]) dX11_date_57 (by decide) rfl ?_
  refine wp_aload_n 0 dX11_date_59 rfl ?_
  refine wp_getR (ci := 8) (j := 16) rfl (by decide) gX11_60 dX11_date_60 c2 rfl ?_
  refine wp_iconst dX11_date_63 ⟨by decide, by decide⟩ ?_
  refine wp_iload_n 1 dX11_date_64 rfl ?_
  have c5 := k.1
  replace k := k.2
  refine wp_imul dX11_date_65 c5 ?_
  refine wp_aload_n 0 dX11_date_66 rfl ?_
  refine wp_getI (ci := 8) (j := 30) rfl (by decide) gX11_104 dX11_date_67 c2 rfl (fun q => ?_)
  refine wp_if_ne 77 dX11_date_70 rfl (fun q => ?_) (fun q => ?_)
  · replace k := k.1 q
    refine wp_iconst dX11_date_77 ⟨by decide, by decide⟩ ?_
    refine wp_sub [0, 2, 3] (ls' := [(0, jR a0), (3, jI a3), (4, jI ((90 * a1) + (hI h 830 a0)))]) rfl ?_
    exact k
  · replace k := k.2 q
    refine wp_iconst dX11_date_73 ⟨by decide, by decide⟩ ?_
    refine wp_goto 78 dX11_date_74 rfl ?_
    refine wp_sub [0, 2, 3] (ls' := [(0, jR a0), (3, jI a3), (4, jI ((90 * a1) + (hI h 830 a0)))]) rfl ?_
    exact k
theorem bX11_date_78 {d : Nat} {h : jH} {Q : jO → jH → Prop} {a0 : Nat} {a3 : Int} {a4 : Int} {s0 : Int} {s1 : Int} {s2 : Nat} (k : jOK h → j32 a3 → j32 a4 → j32 (s1 + s0) ∧ hK h s2 = 10 ∧ 0 ≤ (s1 + s0) ∧ (s1 + s0) < hN h s2 ∧ (j32 (hA h s2 (s1 + s0)) → j32 (a4 + 2) ∧ hK h a0 = 9 ∧ jCall d mX11_two [jR a0, jI (a4 + 2)] h (fun o h87 => ∃ v87, o = .inl (some (jI v87)) ∧ j32 (a4 + 4) ∧ hK h87 a0 = 9 ∧ jCall d mX11_two [jR a0, jI (a4 + 4)] h87 (fun o h97 => ∃ v97, o = .inl (some (jI v97)) ∧ ((a3 ≠ 0 → ((a3 ≠ 1 → ((a3 = 2 → ((v97 ≠ 0 → jWp (d + 1) mX11_date 141 [] [jI v97] h97 Q) ∧ (v97 = 0 → jCall d mX11_daysOf [jI (hA h s2 (s1 + s0)), jI v87] h97 (fun o h133 => ∃ v133, o = .inl (some (jI v133)) ∧ jWp (d + 1) mX11_date 141 [] [jI v133] h133 Q)))) ∧ (¬ (a3 = 2) → Q (.inl (some (jI (-1)))) h97))) ∧ (a3 = 1 → Q (.inl (some (jI v87))) h97))) ∧ (a3 = 0 → Q (.inl (some (jI (hA h s2 (s1 + s0))))) h97)))))) : jWp (d + 1) mX11_date 78 [(0, jR a0), (3, jI a3), (4, jI a4)] [jI s0, jI s1, jR s2] h Q := by
  refine jw_ok (fun ok q => ?_)
  replace k := k ok (q _ (.tail _ (.head _))) (q _ (.tail _ (.tail _ (.head _))))
  have c1 := k.1
  replace k := k.2
  refine wp_iadd dX11_date_78 c1 ?_
  have c2 := k.1
  replace k := k.2
  have c3 := k.1
  replace k := k.2
  have c4 := k.1
  replace k := k.2
  refine wp_iaload dX11_date_79 c2 c3 c4 (fun q => ?_)
  have f5 := q
  replace k := k q
  refine wp_istore [1, 2, 3, 0] (ls' := [(0, jR a0), (3, jI a3), (4, jI a4), (5, jI (hA h s2 (s1 + s0)))]) dX11_date_80 (by decide) rfl ?_
  refine wp_aload_n 0 dX11_date_82 rfl ?_
  refine wp_iload 2 dX11_date_83 rfl ?_
  refine wp_iconst dX11_date_85 ⟨by decide, by decide⟩ ?_
  have c6 := k.1
  replace k := k.2
  refine wp_iadd dX11_date_86 c6 ?_
  have c7 := k.1
  replace k := k.2
  refine wp_callV (ci := 8) (y' := mX11_two) (st := []) [jI (a4 + 2)] rfl rfl rfl fX11_two kX11_308 nX11_two dX11_date_87 (Nat.le_of_ble_eq_true rfl) c7 ?_
  refine jCall.mono k (fun o h87 k => ?_)
  obtain ⟨v87, e, k⟩ := k
  subst e
  show jWp (d + 1) mX11_date 90 [(0, jR a0), (3, jI a3), (4, jI a4), (5, jI (hA h s2 (s1 + s0)))] [jI v87] h87 Q
  refine wp_istore [1, 2, 3, 4, 0] (ls' := [(0, jR a0), (3, jI a3), (4, jI a4), (5, jI (hA h s2 (s1 + s0))), (6, jI v87)]) dX11_date_90 (by decide) rfl ?_
  refine wp_aload_n 0 dX11_date_92 rfl ?_
  refine wp_iload 2 dX11_date_93 rfl ?_
  refine wp_iconst dX11_date_95 ⟨by decide, by decide⟩ ?_
  have c8 := k.1
  replace k := k.2
  refine wp_iadd dX11_date_96 c8 ?_
  have c9 := k.1
  replace k := k.2
  refine wp_callV (ci := 8) (y' := mX11_two) (st := []) [jI (a4 + 4)] rfl rfl rfl fX11_two kX11_308 nX11_two dX11_date_97 (Nat.le_of_ble_eq_true rfl) c9 ?_
  refine jCall.mono k (fun o h97 k => ?_)
  obtain ⟨v97, e, k⟩ := k
  subst e
  show jWp (d + 1) mX11_date 100 [(0, jR a0), (3, jI a3), (4, jI a4), (5, jI (hA h s2 (s1 + s0))), (6, jI v87)] [jI v97] h97 Q
  refine wp_istore [2, 4, 5, 0] (ls' := [(3, jI a3), (5, jI (hA h s2 (s1 + s0))), (6, jI v87), (7, jI v97)]) dX11_date_100 (by decide) rfl ?_
  refine wp_iload_n 0 dX11_date_102 rfl ?_
  refine wp_if_ne 109 dX11_date_103 rfl (fun q => ?_) (fun q => ?_)
  · replace k := k.1 q
    refine wp_iload_n 0 dX11_date_109 rfl ?_
    refine wp_iconst dX11_date_110 ⟨by decide, by decide⟩ ?_
    refine wp_icmp_ne 117 dX11_date_111 rfl (fun q => ?_) (fun q => ?_)
    · replace k := k.1 q
      refine wp_iload_n 0 dX11_date_117 rfl ?_
      refine wp_iconst dX11_date_118 ⟨by decide, by decide⟩ ?_
      refine wp_icmp_eq 124 dX11_date_119 rfl (fun q => ?_) (fun q => ?_)
      · replace k := k.1 q
        refine wp_iload 3 dX11_date_124 rfl ?_
        refine wp_if_ne 139 dX11_date_126 rfl (fun q => ?_) (fun q => ?_)
        · replace k := k.1 q
          refine wp_iload 3 dX11_date_139 rfl ?_
          refine wp_sub [] (ls' := []) rfl ?_
          exact k
        · replace k := k.2 q
          refine wp_iload 1 dX11_date_129 rfl ?_
          refine wp_iload 2 dX11_date_131 rfl ?_
          refine wp_callS (y' := mX11_daysOf) (st := []) [jI (hA h s2 (s1 + s0)), jI v87] rfl fX11_daysOf kX11_314 nX11_daysOf dX11_date_133 (Nat.le_of_ble_eq_true rfl) ?_
          refine jCall.mono k (fun o h133 k => ?_)
          obtain ⟨v133, e, k⟩ := k
          subst e
          show jWp (d + 1) mX11_date 136 [(3, jI a3), (5, jI (hA h s2 (s1 + s0))), (6, jI v87), (7, jI v97)] [jI v133] h133 Q
          refine wp_goto 141 dX11_date_136 rfl ?_
          refine wp_sub [] (ls' := []) rfl ?_
          exact k
      · replace k := k.2 q
        refine wp_iconst dX11_date_122 ⟨by decide, by decide⟩ ?_
        exact wp_iret dX11_date_123 rfl k
    · replace k := k.2 q
      refine wp_iload 2 dX11_date_114 rfl ?_
      exact wp_iret dX11_date_116 rfl k
  · replace k := k.2 q
    refine wp_iload 1 dX11_date_106 rfl ?_
    exact wp_iret dX11_date_108 rfl k
theorem bX11_date_141 {d : Nat} {h : jH} {Q : jO → jH → Prop} {s0 : Int} (k : jOK h → Q (.inl (some (jI s0))) h) : jWp (d + 1) mX11_date 141 [] [jI s0] h Q := by
  refine jw_ok (fun ok q => ?_)
  replace k := k ok 
  exact wp_iret dX11_date_141 rfl k
theorem bX11_find {d : Nat} {h : jH} {Q : jO → jH → Prop} {a0 : Nat} {a1 : Int} {a2 : Int} (k : jOK h → j32 a1 → j32 a2 → hK h a0 = 9 ∧ jWp d mX11_find 7 [(0, jR a0), (1, jI a1), (2, jI a2), (3, jI 0)] [] (sI h 812 a0 0) Q) : jCall d mX11_find [jR a0, jI a1, jI a2] h Q := by
  refine jCall_of plX11 (Nat.le_of_ble_eq_true rfl) ?_
  show jWp d mX11_find 0 [(0, jR a0), (1, jI a1), (2, jI a2)] [] h Q
  refine jw_ok (fun ok q => ?_)
  replace k := k ok (q _ (.tail _ (.head _))) (q _ (.tail _ (.tail _ (.head _))))
  refine wp_aload_n 0 dX11_find_0 rfl ?_
  refine wp_iconst dX11_find_1 ⟨by decide, by decide⟩ ?_
  have c1 := k.1
  replace k := k.2
  refine wp_putI (ci := 8) (j := 12) rfl (by decide) gX11_48 dX11_find_2 c1 (Or.inl rfl) rfl ?_
  refine wp_iconst dX11_find_5 ⟨by decide, by decide⟩ ?_
  refine wp_istore_n [1, 2, 3, 0] (ls' := [(0, jR a0), (1, jI a1), (2, jI a2), (3, jI 0)]) dX11_find_6 (by decide) rfl ?_
  exact k
theorem bX11_find_7 {d : Nat} {h : jH} {Q : jO → jH → Prop} {a0 : Nat} {a1 : Int} {a2 : Int} {a3 : Int} (k : jOK h → j32 a1 → j32 a2 → j32 a3 → hK h a0 = 9 ∧ hK h (hR h 813 a0) = 10 ∧ 0 ≤ (0 : Int) ∧ 0 < hN h (hR h 813 a0) ∧ (j32 (hA h (hR h 813 a0) 0) → (((hA h (hR h 813 a0) 0) ≤ a3 → Q (.inl (some (jI (-1)))) h) ∧ (¬ ((hA h (hR h 813 a0) 0) ≤ a3) → hK h (hR h 814 a0) = 10 ∧ 0 ≤ a3 ∧ a3 < hN h (hR h 814 a0) ∧ (j32 (hA h (hR h 814 a0) a3) → hK h (hR h 801 a0) = 10 ∧ 0 ≤ (hA h (hR h 814 a0) a3) ∧ (hA h (hR h 814 a0) a3) < hN h (hR h 801 a0) ∧ (j32 (hA h (hR h 801 a0) (hA h (hR h 814 a0) a3)) → (((hA h (hR h 801 a0) (hA h (hR h 814 a0) a3)) ≠ a1 → j32 (a3 + 1) ∧ jWp d mX11_find 7 [(0, jR a0), (1, jI a1), (2, jI a2), (3, jI (a3 + 1))] [] h Q) ∧ ((hA h (hR h 801 a0) (hA h (hR h 814 a0) a3)) = a1 → hK h (hR h 802 a0) = 10 ∧ (hA h (hR h 814 a0) a3) < hN h (hR h 802 a0) ∧ (j32 (hA h (hR h 802 a0) (hA h (hR h 814 a0) a3)) → (((hA h (hR h 802 a0) (hA h (hR h 814 a0) a3)) ≠ a2 → j32 (a3 + 1) ∧ jWp d mX11_find 7 [(0, jR a0), (1, jI a1), (2, jI a2), (3, jI (a3 + 1))] [] h Q) ∧ ((hA h (hR h 802 a0) (hA h (hR h 814 a0) a3)) = a2 → Q (.inl (some (jI a3))) h))))))))))) : jWp d mX11_find 7 [(0, jR a0), (1, jI a1), (2, jI a2), (3, jI a3)] [] h Q := by
  refine jw_ok (fun ok q => ?_)
  replace k := k ok (q _ (.tail _ (.head _))) (q _ (.tail _ (.tail _ (.head _)))) (q _ (.tail _ (.tail _ (.tail _ (.head _)))))
  refine wp_iload_n 3 dX11_find_7 rfl ?_
  refine wp_aload_n 0 dX11_find_8 rfl ?_
  have c1 := k.1
  replace k := k.2
  refine wp_getR (ci := 8) (j := 13) rfl (by decide) gX11_51 dX11_find_9 c1 rfl ?_
  refine wp_iconst dX11_find_12 ⟨by decide, by decide⟩ ?_
  have c2 := k.1
  replace k := k.2
  have c3 := k.1
  replace k := k.2
  have c4 := k.1
  replace k := k.2
  refine wp_iaload dX11_find_13 c2 c3 c4 (fun q => ?_)
  have f5 := q
  replace k := k q
  refine wp_icmp_ge 55 dX11_find_14 rfl (fun q => ?_) (fun q => ?_)
  · replace k := k.1 q
    refine wp_iconst dX11_find_55 ⟨by decide, by decide⟩ ?_
    exact wp_iret dX11_find_56 rfl k
  · replace k := k.2 q
    refine wp_aload_n 0 dX11_find_17 rfl ?_
    refine wp_getR (ci := 8) (j := 1) rfl (by decide) gX11_13 dX11_find_18 c1 rfl ?_
    refine wp_aload_n 0 dX11_find_21 rfl ?_
    refine wp_getR (ci := 8) (j := 14) rfl (by decide) gX11_54 dX11_find_22 c1 rfl ?_
    refine wp_iload_n 3 dX11_find_25 rfl ?_
    have c6 := k.1
    replace k := k.2
    have c7 := k.1
    replace k := k.2
    have c8 := k.1
    replace k := k.2
    refine wp_iaload dX11_find_26 c6 c7 c8 (fun q => ?_)
    have f9 := q
    replace k := k q
    have c10 := k.1
    replace k := k.2
    have c11 := k.1
    replace k := k.2
    have c12 := k.1
    replace k := k.2
    refine wp_iaload dX11_find_27 c10 c11 c12 (fun q => ?_)
    have f13 := q
    replace k := k q
    refine wp_iload_n 1 dX11_find_28 rfl ?_
    refine wp_icmp_ne 49 dX11_find_29 rfl (fun q => ?_) (fun q => ?_)
    · replace k := k.1 q
      have c14 := k.1
      replace k := k.2
      refine wp_iinc 3 [1, 2, 3, 0] (ls' := [(0, jR a0), (1, jI a1), (2, jI a2), (3, jI (a3 + 1))]) dX11_find_49 rfl c14 ⟨by decide, by decide⟩ (by decide) rfl ?_
      refine wp_goto 7 dX11_find_52 rfl ?_
      exact k
    · replace k := k.2 q
      refine wp_aload_n 0 dX11_find_32 rfl ?_
      refine wp_getR (ci := 8) (j := 2) rfl (by decide) gX11_16 dX11_find_33 c1 rfl ?_
      refine wp_aload_n 0 dX11_find_36 rfl ?_
      refine wp_getR (ci := 8) (j := 14) rfl (by decide) gX11_54 dX11_find_37 c1 rfl ?_
      refine wp_iload_n 3 dX11_find_40 rfl ?_
      refine wp_iaload dX11_find_41 c6 c7 c8 (fun q => ?_)
      have c15 := k.1
      replace k := k.2
      have c16 := k.1
      replace k := k.2
      refine wp_iaload dX11_find_42 c15 c11 c16 (fun q => ?_)
      have f17 := q
      replace k := k q
      refine wp_iload_n 2 dX11_find_43 rfl ?_
      refine wp_icmp_ne 49 dX11_find_44 rfl (fun q => ?_) (fun q => ?_)
      · replace k := k.1 q
        have c18 := k.1
        replace k := k.2
        refine wp_iinc 3 [1, 2, 3, 0] (ls' := [(0, jR a0), (1, jI a1), (2, jI a2), (3, jI (a3 + 1))]) dX11_find_49 rfl c18 ⟨by decide, by decide⟩ (by decide) rfl ?_
        refine wp_goto 7 dX11_find_52 rfl ?_
        exact k
      · replace k := k.2 q
        refine wp_iload_n 3 dX11_find_47 rfl ?_
        exact wp_iret dX11_find_48 rfl k
theorem bX11_put {d : Nat} {h : jH} {Q : jO → jH → Prop} {a0 : Nat} {a1 : Int} (k : jOK h → j32 a1 → hK h a0 = 9 ∧ (j32 (hI h 833 a0) → hK h (hR h 832 a0) = 11 ∧ 0 ≤ (hI h 833 a0) ∧ (hI h 833 a0) < hN h (hR h 832 a0) ∧ j32 ((hI h 833 a0) + 1) ∧ Q (.inl none) (sI (sA h (hR h 832 a0) (hI h 833 a0) ((a1 + 128) % 256 - 128)) 833 a0 ((hI h 833 a0) + 1)))) : jCall d mX11_put [jR a0, jI a1] h Q := by
  refine jCall_of plX11 (Nat.le_of_ble_eq_true rfl) ?_
  show jWp d mX11_put 0 [(0, jR a0), (1, jI a1)] [] h Q
  refine jw_ok (fun ok q => ?_)
  replace k := k ok (q _ (.tail _ (.head _)))
  refine wp_aload_n 0 dX11_put_0 rfl ?_
  have c1 := k.1
  replace k := k.2
  refine wp_getR (ci := 8) (j := 32) rfl (by decide) gX11_110 dX11_put_1 c1 rfl ?_
  refine wp_aload_n 0 dX11_put_4 rfl ?_
  refine wp_getI (ci := 8) (j := 33) rfl (by decide) gX11_113 dX11_put_5 c1 rfl (fun q => ?_)
  have f2 := q
  replace k := k q
  refine wp_iload_n 1 dX11_put_8 rfl ?_
  refine wp_i2b dX11_put_9 ?_
  have c3 := k.1
  replace k := k.2
  have c4 := k.1
  replace k := k.2
  have c5 := k.1
  replace k := k.2
  refine wp_bastore dX11_put_10 c3 c4 c5 ⟨by omega, by omega⟩ ?_
  refine wp_aload_n 0 dX11_put_11 rfl ?_
  refine wp_dup dX11_put_12 rfl ?_
  refine wp_getI (ci := 8) (j := 33) rfl (by decide) gX11_113 dX11_put_13 c1 rfl (fun q => ?_)
  refine wp_iconst dX11_put_16 ⟨by decide, by decide⟩ ?_
  have c6 := k.1
  replace k := k.2
  refine wp_iadd dX11_put_17 c6 ?_
  refine wp_putI (ci := 8) (j := 33) rfl (by decide) gX11_113 dX11_put_18 c1 (Or.inl rfl) rfl ?_
  exact wp_return dX11_put_21 rfl k
theorem bX11_putAi {d : Nat} {h : jH} {Q : jO → jH → Prop} {a0 : Nat} {a1 : Int} (k : jOK h → j32 a1 → jWp (d + 1) mX11_putAi 4 [(0, jR a0), (1, jI a1), (2, jI 1), (3, jI 1)] [] h Q) : jCall (d + 1) mX11_putAi [jR a0, jI a1] h Q := by
  refine jCall_of plX11 (Nat.le_of_ble_eq_true rfl) ?_
  show jWp (d + 1) mX11_putAi 0 [(0, jR a0), (1, jI a1)] [] h Q
  refine jw_ok (fun ok q => ?_)
  replace k := k ok (q _ (.tail _ (.head _)))
  refine wp_iconst dX11_putAi_0 ⟨by decide, by decide⟩ ?_
  refine wp_istore_n [1, 2, 0] (ls' := [(0, jR a0), (1, jI a1), (2, jI 1)]) dX11_putAi_1 (by decide) rfl ?_
  refine wp_iconst dX11_putAi_2 ⟨by decide, by decide⟩ ?_
  refine wp_istore_n [1, 2, 3, 0] (ls' := [(0, jR a0), (1, jI a1), (2, jI 1), (3, jI 1)]) dX11_putAi_3 (by decide) rfl ?_
  exact k
theorem bX11_putAi_4 {d : Nat} {h : jH} {Q : jO → jH → Prop} {a0 : Nat} {a1 : Int} {a2 : Int} {a3 : Int} (k : jOK h → j32 a1 → j32 a2 → j32 a3 → hK h a0 = 9 ∧ hK h (hR h 802 a0) = 10 ∧ 0 ≤ a1 ∧ a1 < hN h (hR h 802 a0) ∧ (j32 (hA h (hR h 802 a0) a1) → (((hA h (hR h 802 a0) a1) ≤ a3 → jWp (d + 1) mX11_putAi 25 [(0, jR a0), (1, jI a1), (2, jI a2)] [] h Q) ∧ (¬ ((hA h (hR h 802 a0) a1) ≤ a3) → j32 (a2 * 10) ∧ j32 (a3 + 1) ∧ jWp (d + 1) mX11_putAi 4 [(0, jR a0), (1, jI a1), (2, jI (a2 * 10)), (3, jI (a3 + 1))] [] h Q)))) : jWp (d + 1) mX11_putAi 4 [(0, jR a0), (1, jI a1), (2, jI a2), (3, jI a3)] [] h Q := by
  refine jw_ok (fun ok q => ?_)
  replace k := k ok (q _ (.tail _ (.head _))) (q _ (.tail _ (.tail _ (.head _)))) (q _ (.tail _ (.tail _ (.tail _ (.head _)))))
  refine wp_iload_n 3 dX11_putAi_4 rfl ?_
  refine wp_aload_n 0 dX11_putAi_5 rfl ?_
  have c1 := k.1
  replace k := k.2
  refine wp_getR (ci := 8) (j := 2) rfl (by decide) gX11_16 dX11_putAi_6 c1 rfl ?_
  refine wp_iload_n 1 dX11_putAi_9 rfl ?_
  have c2 := k.1
  replace k := k.2
  have c3 := k.1
  replace k := k.2
  have c4 := k.1
  replace k := k.2
  refine wp_iaload dX11_putAi_10 c2 c3 c4 (fun q => ?_)
  have f5 := q
  replace k := k q
  refine wp_icmp_ge 25 dX11_putAi_11 rfl (fun q => ?_) (fun q => ?_)
  · replace k := k.1 q
    refine wp_sub [0, 1, 2] (ls' := [(0, jR a0), (1, jI a1), (2, jI a2)]) rfl ?_
    exact k
  · replace k := k.2 q
    refine wp_iload_n 2 dX11_putAi_14 rfl ?_
    refine wp_bipush dX11_putAi_15 ⟨by decide, by decide⟩ ?_
    have c6 := k.1
    replace k := k.2
    refine wp_imul dX11_putAi_17 c6 ?_
    refine wp_istore_n [1, 2, 0, 3] (ls' := [(0, jR a0), (1, jI a1), (2, jI (a2 * 10)), (3, jI a3)]) dX11_putAi_18 (by decide) rfl ?_
    have c7 := k.1
    replace k := k.2
    refine wp_iinc 3 [1, 2, 3, 0] (ls' := [(0, jR a0), (1, jI a1), (2, jI (a2 * 10)), (3, jI (a3 + 1))]) dX11_putAi_19 rfl c7 ⟨by decide, by decide⟩ (by decide) rfl ?_
    refine wp_goto 4 dX11_putAi_22 rfl ?_
    exact k
theorem bX11_putAi_25 {d : Nat} {h : jH} {Q : jO → jH → Prop} {a0 : Nat} {a1 : Int} {a2 : Int} (k : jOK h → j32 a1 → j32 a2 → ((a2 ≤ 0 → Q (.inl none) h) ∧ (¬ (a2 ≤ 0) → hK h a0 = 9 ∧ hK h (hR h 801 a0) = 10 ∧ 0 ≤ a1 ∧ a1 < hN h (hR h 801 a0) ∧ (j32 (hA h (hR h 801 a0) a1) → 0 ≤ (hA h (hR h 801 a0) a1) ∧ 0 < a2 ∧ 0 ≤ ((hA h (hR h 801 a0) a1) / a2) ∧ j32 (48 + (((hA h (hR h 801 a0) a1) / a2) % 10)) ∧ jCall d mX11_put [jR a0, jI (48 + (((hA h (hR h 801 a0) a1) / a2) % 10))] h (fun o h44 => o = .inl none ∧ 0 ≤ a2 ∧ jWp (d + 1) mX11_putAi 25 [(0, jR a0), (1, jI a1), (2, jI (a2 / 10))] [] h44 Q))))) : jWp (d + 1) mX11_putAi 25 [(0, jR a0), (1, jI a1), (2, jI a2)] [] h Q := by
  refine jw_ok (fun ok q => ?_)
  replace k := k ok (q _ (.tail _ (.head _))) (q _ (.tail _ (.tail _ (.head _))))
  refine wp_iload_n 2 dX11_putAi_25 rfl ?_
  refine wp_if_le 55 dX11_putAi_26 rfl (fun q => ?_) (fun q => ?_)
  · replace k := k.1 q
    exact wp_return dX11_putAi_55 rfl k
  · replace k := k.2 q
    refine wp_aload_n 0 dX11_putAi_29 rfl ?_
    refine wp_bipush dX11_putAi_30 ⟨by decide, by decide⟩ ?_
    refine wp_aload_n 0 dX11_putAi_32 rfl ?_
    have c1 := k.1
    replace k := k.2
    refine wp_getR (ci := 8) (j := 1) rfl (by decide) gX11_13 dX11_putAi_33 c1 rfl ?_
    refine wp_iload_n 1 dX11_putAi_36 rfl ?_
    have c2 := k.1
    replace k := k.2
    have c3 := k.1
    replace k := k.2
    have c4 := k.1
    replace k := k.2
    refine wp_iaload dX11_putAi_37 c2 c3 c4 (fun q => ?_)
    have f5 := q
    replace k := k q
    refine wp_iload_n 2 dX11_putAi_38 rfl ?_
    have c6 := k.1
    replace k := k.2
    have c7 := k.1
    replace k := k.2
    refine wp_idiv dX11_putAi_39 c6 c7 ?_
    refine wp_bipush dX11_putAi_40 ⟨by decide, by decide⟩ ?_
    have c8 := k.1
    replace k := k.2
    refine wp_irem dX11_putAi_42 c8 (by decide) ?_
    have c9 := k.1
    replace k := k.2
    refine wp_iadd dX11_putAi_43 c9 ?_
    refine wp_callV (ci := 8) (y' := mX11_put) (st := []) [jI (48 + (((hA h (hR h 801 a0) a1) / a2) % 10))] rfl rfl rfl fX11_put kX11_410 nX11_put dX11_putAi_44 (Nat.le_of_ble_eq_true rfl) c1 ?_
    refine jCall.mono k (fun o h44 k => ?_)
    obtain ⟨e, k⟩ := k
    subst e
    show jWp (d + 1) mX11_putAi 47 [(0, jR a0), (1, jI a1), (2, jI a2)] [] h44 Q
    refine wp_iload_n 2 dX11_putAi_47 rfl ?_
    refine wp_bipush dX11_putAi_48 ⟨by decide, by decide⟩ ?_
    have c10 := k.1
    replace k := k.2
    refine wp_idiv dX11_putAi_50 c10 (by decide) ?_
    refine wp_istore_n [1, 2, 0] (ls' := [(0, jR a0), (1, jI a1), (2, jI (a2 / 10))]) dX11_putAi_51 (by decide) rfl ?_
    refine wp_goto 25 dX11_putAi_52 rfl ?_
    exact k
theorem bX11_writes {d : Nat} {h : jH} {Q : jO → jH → Prop} {a0 : Nat} {a1 : Int} {a2 : Int} {a3 : Int} (k : jOK h → j32 a1 → j32 a2 → j32 a3 → hK h a0 = 9 ∧ jWp (d + 1) mX11_writes 8 [(0, jR a0), (1, jI a1), (2, jI a2), (3, jI a3), (4, jI a1)] [] (sI h 833 a0 0) Q) : jCall (d + 1) mX11_writes [jR a0, jI a1, jI a2, jI a3] h Q := by
  refine jCall_of plX11 (Nat.le_of_ble_eq_true rfl) ?_
  show jWp (d + 1) mX11_writes 0 [(0, jR a0), (1, jI a1), (2, jI a2), (3, jI a3)] [] h Q
  refine jw_ok (fun ok q => ?_)
  replace k := k ok (q _ (.tail _ (.head _))) (q _ (.tail _ (.tail _ (.head _)))) (q _ (.tail _ (.tail _ (.tail _ (.head _)))))
  refine wp_aload_n 0 dX11_writes_0 rfl ?_
  refine wp_iconst dX11_writes_1 ⟨by decide, by decide⟩ ?_
  have c1 := k.1
  replace k := k.2
  refine wp_putI (ci := 8) (j := 33) rfl (by decide) gX11_113 dX11_writes_2 c1 (Or.inl rfl) rfl ?_
  refine wp_iload_n 1 dX11_writes_5 rfl ?_
  refine wp_istore [1, 2, 3, 4, 0] (ls' := [(0, jR a0), (1, jI a1), (2, jI a2), (3, jI a3), (4, jI a1)]) dX11_writes_6 (by decide) rfl ?_
  exact k
theorem bX11_writes_8 {d : Nat} {h : jH} {Q : jO → jH → Prop} {a0 : Nat} {a1 : Int} {a2 : Int} {a3 : Int} {a4 : Int} (k : jOK h → j32 a1 → j32 a2 → j32 a3 → j32 a4 → ((a2 ≤ a4 → Q (.inl none) h) ∧ (¬ (a2 ≤ a4) → ((a3 = 0 → ((a4 ≤ a1 → hK h a0 = 9 ∧ hK h (hR h 814 a0) = 10 ∧ 0 ≤ a4 ∧ a4 < hN h (hR h 814 a0) ∧ (j32 (hA h (hR h 814 a0) a4) → jCall d mX11_putAi [jR a0, jI (hA h (hR h 814 a0) a4)] h (fun o h63 => o = .inl none ∧ ((a3 = 0 → jWp (d + 1) mX11_writes 79 [(0, jR a0), (1, jI a1), (2, jI a2), (3, jI a3), (4, jI a4), (5, jI 0)] [] h63 Q) ∧ (¬ (a3 = 0) → hK h63 a0 = 9 ∧ jCall d mX11_put [jR a0, jI 41] h63 (fun o h73 => o = .inl none ∧ jWp (d + 1) mX11_writes 79 [(0, jR a0), (1, jI a1), (2, jI a2), (3, jI a3), (4, jI a4), (5, jI 0)] [] h73 Q)))))) ∧ (¬ (a4 ≤ a1) → hK h a0 = 9 ∧ j32 (a4 - 1) ∧ hK h (hR h 814 a0) = 10 ∧ 0 ≤ (a4 - 1) ∧ (a4 - 1) < hN h (hR h 814 a0) ∧ (j32 (hA h (hR h 814 a0) (a4 - 1)) → jCall d mX11_isFixed [jR a0, jI (hA h (hR h 814 a0) (a4 - 1))] h (fun o h43 => ∃ v43, o = .inl (some (jI v43)) ∧ ((v43 ≠ 0 → hK h43 a0 = 9 ∧ hK h43 (hR h43 814 a0) = 10 ∧ 0 ≤ a4 ∧ a4 < hN h43 (hR h43 814 a0) ∧ (j32 (hA h43 (hR h43 814 a0) a4) → jCall d mX11_putAi [jR a0, jI (hA h43 (hR h43 814 a0) a4)] h43 (fun o h63_1 => o = .inl none ∧ ((a3 = 0 → jWp (d + 1) mX11_writes 79 [(0, jR a0), (1, jI a1), (2, jI a2), (3, jI a3), (4, jI a4), (5, jI 0)] [] h63_1 Q) ∧ (¬ (a3 = 0) → hK h63_1 a0 = 9 ∧ jCall d mX11_put [jR a0, jI 41] h63_1 (fun o h73_1 => o = .inl none ∧ jWp (d + 1) mX11_writes 79 [(0, jR a0), (1, jI a1), (2, jI a2), (3, jI a3), (4, jI a4), (5, jI 0)] [] h73_1 Q)))))) ∧ (v43 = 0 → hK h43 a0 = 9 ∧ jCall d mX11_put [jR a0, jI 29] h43 (fun o h52 => o = .inl none ∧ hK h52 a0 = 9 ∧ hK h52 (hR h52 814 a0) = 10 ∧ 0 ≤ a4 ∧ a4 < hN h52 (hR h52 814 a0) ∧ (j32 (hA h52 (hR h52 814 a0) a4) → jCall d mX11_putAi [jR a0, jI (hA h52 (hR h52 814 a0) a4)] h52 (fun o h63_2 => o = .inl none ∧ ((a3 = 0 → jWp (d + 1) mX11_writes 79 [(0, jR a0), (1, jI a1), (2, jI a2), (3, jI a3), (4, jI a4), (5, jI 0)] [] h63_2 Q) ∧ (¬ (a3 = 0) → hK h63_2 a0 = 9 ∧ jCall d mX11_put [jR a0, jI 41] h63_2 (fun o h73_2 => o = .inl none ∧ jWp (d + 1) mX11_writes 79 [(0, jR a0), (1, jI a1), (2, jI a2), (3, jI a3), (4, jI a4), (5, jI 0)] [] h73_2 Q))))))))))))) ∧ (¬ (a3 = 0) → hK h a0 = 9 ∧ jCall d mX11_put [jR a0, jI 40] h (fun o h21 => o = .inl none ∧ hK h21 a0 = 9 ∧ hK h21 (hR h21 814 a0) = 10 ∧ 0 ≤ a4 ∧ a4 < hN h21 (hR h21 814 a0) ∧ (j32 (hA h21 (hR h21 814 a0) a4) → jCall d mX11_putAi [jR a0, jI (hA h21 (hR h21 814 a0) a4)] h21 (fun o h63_3 => o = .inl none ∧ ((a3 = 0 → jWp (d + 1) mX11_writes 79 [(0, jR a0), (1, jI a1), (2, jI a2), (3, jI a3), (4, jI a4), (5, jI 0)] [] h63_3 Q) ∧ (¬ (a3 = 0) → hK h63_3 a0 = 9 ∧ jCall d mX11_put [jR a0, jI 41] h63_3 (fun o h73_3 => o = .inl none ∧ jWp (d + 1) mX11_writes 79 [(0, jR a0), (1, jI a1), (2, jI a2), (3, jI a3), (4, jI a4), (5, jI 0)] [] h73_3 Q))))))))))) : jWp (d + 1) mX11_writes 8 [(0, jR a0), (1, jI a1), (2, jI a2), (3, jI a3), (4, jI a4)] [] h Q := by
  refine jw_ok (fun ok q => ?_)
  replace k := k ok (q _ (.tail _ (.head _))) (q _ (.tail _ (.tail _ (.head _)))) (q _ (.tail _ (.tail _ (.tail _ (.head _))))) (q _ (.tail _ (.tail _ (.tail _ (.tail _ (.head _))))))
  refine wp_iload 4 dX11_writes_8 rfl ?_
  refine wp_iload_n 2 dX11_writes_10 rfl ?_
  refine wp_icmp_ge 141 dX11_writes_11 rfl (fun q => ?_) (fun q => ?_)
  · replace k := k.1 q
    exact wp_return dX11_writes_141 rfl k
  · replace k := k.2 q
    refine wp_iload_n 3 dX11_writes_14 rfl ?_
    refine wp_if_eq 27 dX11_writes_15 rfl (fun q => ?_) (fun q => ?_)
    · replace k := k.1 q
      refine wp_iload 4 dX11_writes_27 rfl ?_
      refine wp_iload_n 1 dX11_writes_29 rfl ?_
      refine wp_icmp_le 55 dX11_writes_30 rfl (fun q => ?_) (fun q => ?_)
      · replace k := k.1 q
        refine wp_aload_n 0 dX11_writes_55 rfl ?_
        refine wp_aload_n 0 dX11_writes_56 rfl ?_
        have c1 := k.1
        replace k := k.2
        refine wp_getR (ci := 8) (j := 14) rfl (by decide) gX11_54 dX11_writes_57 c1 rfl ?_
        refine wp_iload 4 dX11_writes_60 rfl ?_
        have c2 := k.1
        replace k := k.2
        have c3 := k.1
        replace k := k.2
        have c4 := k.1
        replace k := k.2
        refine wp_iaload dX11_writes_62 c2 c3 c4 (fun q => ?_)
        have f5 := q
        replace k := k q
        refine wp_callV (ci := 8) (y' := mX11_putAi) (st := []) [jI (hA h (hR h 814 a0) a4)] rfl rfl rfl fX11_putAi kX11_414 nX11_putAi dX11_writes_63 (Nat.le_of_ble_eq_true rfl) c1 ?_
        refine jCall.mono k (fun o h63 k => ?_)
        obtain ⟨e, k⟩ := k
        subst e
        show jWp (d + 1) mX11_writes 66 [(0, jR a0), (1, jI a1), (2, jI a2), (3, jI a3), (4, jI a4)] [] h63 Q
        refine wp_iload_n 3 dX11_writes_66 rfl ?_
        refine wp_if_eq 76 dX11_writes_67 rfl (fun q => ?_) (fun q => ?_)
        · replace k := k.1 q
          refine wp_iconst dX11_writes_76 ⟨by decide, by decide⟩ ?_
          refine wp_istore [1, 2, 3, 4, 5, 0] (ls' := [(0, jR a0), (1, jI a1), (2, jI a2), (3, jI a3), (4, jI a4), (5, jI 0)]) dX11_writes_77 (by decide) rfl ?_
          exact k
        · replace k := k.2 q
          refine wp_aload_n 0 dX11_writes_70 rfl ?_
          refine wp_bipush dX11_writes_71 ⟨by decide, by decide⟩ ?_
          have c6 := k.1
          replace k := k.2
          refine wp_callV (ci := 8) (y' := mX11_put) (st := []) [jI 41] rfl rfl rfl fX11_put kX11_410 nX11_put dX11_writes_73 (Nat.le_of_ble_eq_true rfl) c6 ?_
          refine jCall.mono k (fun o h73 k => ?_)
          obtain ⟨e, k⟩ := k
          subst e
          show jWp (d + 1) mX11_writes 76 [(0, jR a0), (1, jI a1), (2, jI a2), (3, jI a3), (4, jI a4)] [] h73 Q
          refine wp_iconst dX11_writes_76 ⟨by decide, by decide⟩ ?_
          refine wp_istore [1, 2, 3, 4, 5, 0] (ls' := [(0, jR a0), (1, jI a1), (2, jI a2), (3, jI a3), (4, jI a4), (5, jI 0)]) dX11_writes_77 (by decide) rfl ?_
          exact k
      · replace k := k.2 q
        refine wp_aload_n 0 dX11_writes_33 rfl ?_
        refine wp_aload_n 0 dX11_writes_34 rfl ?_
        have c7 := k.1
        replace k := k.2
        refine wp_getR (ci := 8) (j := 14) rfl (by decide) gX11_54 dX11_writes_35 c7 rfl ?_
        refine wp_iload 4 dX11_writes_38 rfl ?_
        refine wp_iconst dX11_writes_40 ⟨by decide, by decide⟩ ?_
        have c8 := k.1
        replace k := k.2
        refine wp_isub dX11_writes_41 c8 ?_
        have c9 := k.1
        replace k := k.2
        have c10 := k.1
        replace k := k.2
        have c11 := k.1
        replace k := k.2
        refine wp_iaload dX11_writes_42 c9 c10 c11 (fun q => ?_)
        have f12 := q
        replace k := k q
        refine wp_callV (ci := 8) (y' := mX11_isFixed) (st := []) [jI (hA h (hR h 814 a0) (a4 - 1))] rfl rfl rfl fX11_isFixed kX11_317 nX11_isFixed dX11_writes_43 (Nat.le_of_ble_eq_true rfl) c7 ?_
        refine jCall.mono k (fun o h43 k => ?_)
        obtain ⟨v43, e, k⟩ := k
        subst e
        show jWp (d + 1) mX11_writes 46 [(0, jR a0), (1, jI a1), (2, jI a2), (3, jI a3), (4, jI a4)] [jI v43] h43 Q
        refine wp_if_ne 55 dX11_writes_46 rfl (fun q => ?_) (fun q => ?_)
        · replace k := k.1 q
          refine wp_aload_n 0 dX11_writes_55 rfl ?_
          refine wp_aload_n 0 dX11_writes_56 rfl ?_
          have c13 := k.1
          replace k := k.2
          refine wp_getR (ci := 8) (j := 14) rfl (by decide) gX11_54 dX11_writes_57 c13 rfl ?_
          refine wp_iload 4 dX11_writes_60 rfl ?_
          have c14 := k.1
          replace k := k.2
          have c15 := k.1
          replace k := k.2
          have c16 := k.1
          replace k := k.2
          refine wp_iaload dX11_writes_62 c14 c15 c16 (fun q => ?_)
          have f17 := q
          replace k := k q
          refine wp_callV (ci := 8) (y' := mX11_putAi) (st := []) [jI (hA h43 (hR h43 814 a0) a4)] rfl rfl rfl fX11_putAi kX11_414 nX11_putAi dX11_writes_63 (Nat.le_of_ble_eq_true rfl) c13 ?_
          refine jCall.mono k (fun o h63_1 k => ?_)
          obtain ⟨e, k⟩ := k
          subst e
          show jWp (d + 1) mX11_writes 66 [(0, jR a0), (1, jI a1), (2, jI a2), (3, jI a3), (4, jI a4)] [] h63_1 Q
          refine wp_iload_n 3 dX11_writes_66 rfl ?_
          refine wp_if_eq 76 dX11_writes_67 rfl (fun q => ?_) (fun q => ?_)
          · replace k := k.1 q
            refine wp_iconst dX11_writes_76 ⟨by decide, by decide⟩ ?_
            refine wp_istore [1, 2, 3, 4, 5, 0] (ls' := [(0, jR a0), (1, jI a1), (2, jI a2), (3, jI a3), (4, jI a4), (5, jI 0)]) dX11_writes_77 (by decide) rfl ?_
            exact k
          · replace k := k.2 q
            refine wp_aload_n 0 dX11_writes_70 rfl ?_
            refine wp_bipush dX11_writes_71 ⟨by decide, by decide⟩ ?_
            have c18 := k.1
            replace k := k.2
            refine wp_callV (ci := 8) (y' := mX11_put) (st := []) [jI 41] rfl rfl rfl fX11_put kX11_410 nX11_put dX11_writes_73 (Nat.le_of_ble_eq_true rfl) c18 ?_
            refine jCall.mono k (fun o h73_1 k => ?_)
            obtain ⟨e, k⟩ := k
            subst e
            show jWp (d + 1) mX11_writes 76 [(0, jR a0), (1, jI a1), (2, jI a2), (3, jI a3), (4, jI a4)] [] h73_1 Q
            refine wp_iconst dX11_writes_76 ⟨by decide, by decide⟩ ?_
            refine wp_istore [1, 2, 3, 4, 5, 0] (ls' := [(0, jR a0), (1, jI a1), (2, jI a2), (3, jI a3), (4, jI a4), (5, jI 0)]) dX11_writes_77 (by decide) rfl ?_
            exact k
        · replace k := k.2 q
          refine wp_aload_n 0 dX11_writes_49 rfl ?_
          refine wp_bipush dX11_writes_50 ⟨by decide, by decide⟩ ?_
          have c19 := k.1
          replace k := k.2
          refine wp_callV (ci := 8) (y' := mX11_put) (st := []) [jI 29] rfl rfl rfl fX11_put kX11_410 nX11_put dX11_writes_52 (Nat.le_of_ble_eq_true rfl) c19 ?_
          refine jCall.mono k (fun o h52 k => ?_)
          obtain ⟨e, k⟩ := k
          subst e
          show jWp (d + 1) mX11_writes 55 [(0, jR a0), (1, jI a1), (2, jI a2), (3, jI a3), (4, jI a4)] [] h52 Q
          refine wp_aload_n 0 dX11_writes_55 rfl ?_
          refine wp_aload_n 0 dX11_writes_56 rfl ?_
          have c20 := k.1
          replace k := k.2
          refine wp_getR (ci := 8) (j := 14) rfl (by decide) gX11_54 dX11_writes_57 c20 rfl ?_
          refine wp_iload 4 dX11_writes_60 rfl ?_
          have c21 := k.1
          replace k := k.2
          have c22 := k.1
          replace k := k.2
          have c23 := k.1
          replace k := k.2
          refine wp_iaload dX11_writes_62 c21 c22 c23 (fun q => ?_)
          have f24 := q
          replace k := k q
          refine wp_callV (ci := 8) (y' := mX11_putAi) (st := []) [jI (hA h52 (hR h52 814 a0) a4)] rfl rfl rfl fX11_putAi kX11_414 nX11_putAi dX11_writes_63 (Nat.le_of_ble_eq_true rfl) c20 ?_
          refine jCall.mono k (fun o h63_2 k => ?_)
          obtain ⟨e, k⟩ := k
          subst e
          show jWp (d + 1) mX11_writes 66 [(0, jR a0), (1, jI a1), (2, jI a2), (3, jI a3), (4, jI a4)] [] h63_2 Q
          refine wp_iload_n 3 dX11_writes_66 rfl ?_
          refine wp_if_eq 76 dX11_writes_67 rfl (fun q => ?_) (fun q => ?_)
          · replace k := k.1 q
            refine wp_iconst dX11_writes_76 ⟨by decide, by decide⟩ ?_
            refine wp_istore [1, 2, 3, 4, 5, 0] (ls' := [(0, jR a0), (1, jI a1), (2, jI a2), (3, jI a3), (4, jI a4), (5, jI 0)]) dX11_writes_77 (by decide) rfl ?_
            exact k
          · replace k := k.2 q
            refine wp_aload_n 0 dX11_writes_70 rfl ?_
            refine wp_bipush dX11_writes_71 ⟨by decide, by decide⟩ ?_
            have c25 := k.1
            replace k := k.2
            refine wp_callV (ci := 8) (y' := mX11_put) (st := []) [jI 41] rfl rfl rfl fX11_put kX11_410 nX11_put dX11_writes_73 (Nat.le_of_ble_eq_true rfl) c25 ?_
            refine jCall.mono k (fun o h73_2 k => ?_)
            obtain ⟨e, k⟩ := k
            subst e
            show jWp (d + 1) mX11_writes 76 [(0, jR a0), (1, jI a1), (2, jI a2), (3, jI a3), (4, jI a4)] [] h73_2 Q
            refine wp_iconst dX11_writes_76 ⟨by decide, by decide⟩ ?_
            refine wp_istore [1, 2, 3, 4, 5, 0] (ls' := [(0, jR a0), (1, jI a1), (2, jI a2), (3, jI a3), (4, jI a4), (5, jI 0)]) dX11_writes_77 (by decide) rfl ?_
            exact k
    · replace k := k.2 q
      refine wp_aload_n 0 dX11_writes_18 rfl ?_
      refine wp_bipush dX11_writes_19 ⟨by decide, by decide⟩ ?_
      have c26 := k.1
      replace k := k.2
      refine wp_callV (ci := 8) (y' := mX11_put) (st := []) [jI 40] rfl rfl rfl fX11_put kX11_410 nX11_put dX11_writes_21 (Nat.le_of_ble_eq_true rfl) c26 ?_
      refine jCall.mono k (fun o h21 k => ?_)
      obtain ⟨e, k⟩ := k
      subst e
      show jWp (d + 1) mX11_writes 24 [(0, jR a0), (1, jI a1), (2, jI a2), (3, jI a3), (4, jI a4)] [] h21 Q
      refine wp_goto 55 dX11_writes_24 rfl ?_
      refine wp_aload_n 0 dX11_writes_55 rfl ?_
      refine wp_aload_n 0 dX11_writes_56 rfl ?_
      have c27 := k.1
      replace k := k.2
      refine wp_getR (ci := 8) (j := 14) rfl (by decide) gX11_54 dX11_writes_57 c27 rfl ?_
      refine wp_iload 4 dX11_writes_60 rfl ?_
      have c28 := k.1
      replace k := k.2
      have c29 := k.1
      replace k := k.2
      have c30 := k.1
      replace k := k.2
      refine wp_iaload dX11_writes_62 c28 c29 c30 (fun q => ?_)
      have f31 := q
      replace k := k q
      refine wp_callV (ci := 8) (y' := mX11_putAi) (st := []) [jI (hA h21 (hR h21 814 a0) a4)] rfl rfl rfl fX11_putAi kX11_414 nX11_putAi dX11_writes_63 (Nat.le_of_ble_eq_true rfl) c27 ?_
      refine jCall.mono k (fun o h63_3 k => ?_)
      obtain ⟨e, k⟩ := k
      subst e
      show jWp (d + 1) mX11_writes 66 [(0, jR a0), (1, jI a1), (2, jI a2), (3, jI a3), (4, jI a4)] [] h63_3 Q
      refine wp_iload_n 3 dX11_writes_66 rfl ?_
      refine wp_if_eq 76 dX11_writes_67 rfl (fun q => ?_) (fun q => ?_)
      · replace k := k.1 q
        refine wp_iconst dX11_writes_76 ⟨by decide, by decide⟩ ?_
        refine wp_istore [1, 2, 3, 4, 5, 0] (ls' := [(0, jR a0), (1, jI a1), (2, jI a2), (3, jI a3), (4, jI a4), (5, jI 0)]) dX11_writes_77 (by decide) rfl ?_
        exact k
      · replace k := k.2 q
        refine wp_aload_n 0 dX11_writes_70 rfl ?_
        refine wp_bipush dX11_writes_71 ⟨by decide, by decide⟩ ?_
        have c32 := k.1
        replace k := k.2
        refine wp_callV (ci := 8) (y' := mX11_put) (st := []) [jI 41] rfl rfl rfl fX11_put kX11_410 nX11_put dX11_writes_73 (Nat.le_of_ble_eq_true rfl) c32 ?_
        refine jCall.mono k (fun o h73_3 k => ?_)
        obtain ⟨e, k⟩ := k
        subst e
        show jWp (d + 1) mX11_writes 76 [(0, jR a0), (1, jI a1), (2, jI a2), (3, jI a3), (4, jI a4)] [] h73_3 Q
        refine wp_iconst dX11_writes_76 ⟨by decide, by decide⟩ ?_
        refine wp_istore [1, 2, 3, 4, 5, 0] (ls' := [(0, jR a0), (1, jI a1), (2, jI a2), (3, jI a3), (4, jI a4), (5, jI 0)]) dX11_writes_77 (by decide) rfl ?_
        exact k
theorem bX11_writes_79 {d : Nat} {h : jH} {Q : jO → jH → Prop} {a0 : Nat} {a1 : Int} {a2 : Int} {a3 : Int} {a4 : Int} {a5 : Int} (k : jOK h → j32 a1 → j32 a2 → j32 a3 → j32 a4 → j32 a5 → hK h a0 = 9 ∧ hK h (hR h 815 a0) = 10 ∧ 0 ≤ a4 ∧ a4 < hN h (hR h 815 a0) ∧ (j32 (hA h (hR h 815 a0) a4) → (((hA h (hR h 815 a0) a4) ≤ a5 → j32 (a4 + 1) ∧ jWp (d + 1) mX11_writes 8 [(0, jR a0), (1, jI a1), (2, jI a2), (3, jI a3), (4, jI (a4 + 1))] [] h Q) ∧ (¬ ((hA h (hR h 815 a0) a4) ≤ a5) → j32 (90 * a4) ∧ j32 ((90 * a4) + a5) ∧ hK h (hR h 817 a0) = 11 ∧ 0 ≤ ((90 * a4) + a5) ∧ ((90 * a4) + a5) < hN h (hR h 817 a0) ∧ ((-128 ≤ hA h (hR h 817 a0) ((90 * a4) + a5) ∧ hA h (hR h 817 a0) ((90 * a4) + a5) ≤ 127) → ((a3 = 0 → jCall d mX11_put [jR a0, jI (hA h (hR h 817 a0) ((90 * a4) + a5))] h (fun o h126 => o = .inl none ∧ j32 (a5 + 1) ∧ jWp (d + 1) mX11_writes 79 [(0, jR a0), (1, jI a1), (2, jI a2), (3, jI a3), (4, jI a4), (5, jI (a5 + 1))] [] h126 Q)) ∧ (¬ (a3 = 0) → (((hA h (hR h 817 a0) ((90 * a4) + a5)) ≠ 40 → jCall d mX11_put [jR a0, jI (hA h (hR h 817 a0) ((90 * a4) + a5))] h (fun o h126_1 => o = .inl none ∧ j32 (a5 + 1) ∧ jWp (d + 1) mX11_writes 79 [(0, jR a0), (1, jI a1), (2, jI a2), (3, jI a3), (4, jI a4), (5, jI (a5 + 1))] [] h126_1 Q)) ∧ ((hA h (hR h 817 a0) ((90 * a4) + a5)) = 40 → jCall d mX11_put [jR a0, jI 92] h (fun o h120 => o = .inl none ∧ hK h120 a0 = 9 ∧ jCall d mX11_put [jR a0, jI (hA h (hR h 817 a0) ((90 * a4) + a5))] h120 (fun o h126_2 => o = .inl none ∧ j32 (a5 + 1) ∧ jWp (d + 1) mX11_writes 79 [(0, jR a0), (1, jI a1), (2, jI a2), (3, jI a3), (4, jI a4), (5, jI (a5 + 1))] [] h126_2 Q))))))))))) : jWp (d + 1) mX11_writes 79 [(0, jR a0), (1, jI a1), (2, jI a2), (3, jI a3), (4, jI a4), (5, jI a5)] [] h Q := by
  refine jw_ok (fun ok q => ?_)
  replace k := k ok (q _ (.tail _ (.head _))) (q _ (.tail _ (.tail _ (.head _)))) (q _ (.tail _ (.tail _ (.tail _ (.head _))))) (q _ (.tail _ (.tail _ (.tail _ (.tail _ (.head _)))))) (q _ (.tail _ (.tail _ (.tail _ (.tail _ (.tail _ (.head _)))))))
  refine wp_iload 5 dX11_writes_79 rfl ?_
  refine wp_aload_n 0 dX11_writes_81 rfl ?_
  have c1 := k.1
  replace k := k.2
  refine wp_getR (ci := 8) (j := 15) rfl (by decide) gX11_57 dX11_writes_82 c1 rfl ?_
  refine wp_iload 4 dX11_writes_85 rfl ?_
  have c2 := k.1
  replace k := k.2
  have c3 := k.1
  replace k := k.2
  have c4 := k.1
  replace k := k.2
  refine wp_iaload dX11_writes_87 c2 c3 c4 (fun q => ?_)
  have f5 := q
  replace k := k q
  refine wp_icmp_ge 135 dX11_writes_88 rfl (fun q => ?_) (fun q => ?_)
  · replace k := k.1 q
    have c6 := k.1
    replace k := k.2
    refine wp_iinc 4 [1, 2, 3, 4, 0] (ls' := [(0, jR a0), (1, jI a1), (2, jI a2), (3, jI a3), (4, jI (a4 + 1))]) dX11_writes_135 rfl c6 ⟨by decide, by decide⟩ (by decide) rfl ?_
    refine wp_goto 8 dX11_writes_138 rfl ?_
    exact k
  · replace k := k.2 q
    refine wp_aload_n 0 dX11_writes_91 rfl ?_
    refine wp_getR (ci := 8) (j := 17) rfl (by decide) gX11_63 dX11_writes_92 c1 rfl ?_
    refine wp_bipush dX11_writes_95 ⟨by decide, by decide⟩ ?_
    refine wp_iload 4 dX11_writes_97 rfl ?_
    have c7 := k.1
    replace k := k.2
    refine wp_imul dX11_writes_99 c7 ?_
    refine wp_iload 5 dX11_writes_100 rfl ?_
    have c8 := k.1
    replace k := k.2
    refine wp_iadd dX11_writes_102 c8 ?_
    have c9 := k.1
    replace k := k.2
    have c10 := k.1
    replace k := k.2
    have c11 := k.1
    replace k := k.2
    refine wp_baload dX11_writes_103 c9 c10 c11 (fun q => ?_)
    have f12 := q
    replace k := k q
    refine wp_istore [1, 2, 3, 4, 5, 6, 0] (ls' := [(0, jR a0), (1, jI a1), (2, jI a2), (3, jI a3), (4, jI a4), (5, jI a5), (6, jI (hA h (hR h 817 a0) ((90 * a4) + a5)))]) dX11_writes_104 (by decide) rfl ?_
    refine wp_iload_n 3 dX11_writes_106 rfl ?_
    refine wp_if_eq 123 dX11_writes_107 rfl (fun q => ?_) (fun q => ?_)
    · replace k := k.1 q
      refine wp_aload_n 0 dX11_writes_123 rfl ?_
      refine wp_iload 6 dX11_writes_124 rfl ?_
      refine wp_callV (ci := 8) (y' := mX11_put) (st := []) [jI (hA h (hR h 817 a0) ((90 * a4) + a5))] rfl rfl rfl fX11_put kX11_410 nX11_put dX11_writes_126 (Nat.le_of_ble_eq_true rfl) c1 ?_
      refine jCall.mono k (fun o h126 k => ?_)
      obtain ⟨e, k⟩ := k
      subst e
      show jWp (d + 1) mX11_writes 129 [(0, jR a0), (1, jI a1), (2, jI a2), (3, jI a3), (4, jI a4), (5, jI a5), (6, jI (hA h (hR h 817 a0) ((90 * a4) + a5)))] [] h126 Q
      have c13 := k.1
      replace k := k.2
      refine wp_iinc 5 [1, 2, 3, 4, 5, 0] (ls' := [(0, jR a0), (1, jI a1), (2, jI a2), (3, jI a3), (4, jI a4), (5, jI (a5 + 1))]) dX11_writes_129 rfl c13 ⟨by decide, by decide⟩ (by decide) rfl ?_
      refine wp_goto 79 dX11_writes_132 rfl ?_
      exact k
    · replace k := k.2 q
      refine wp_iload 6 dX11_writes_110 rfl ?_
      refine wp_bipush dX11_writes_112 ⟨by decide, by decide⟩ ?_
      refine wp_icmp_ne 123 dX11_writes_114 rfl (fun q => ?_) (fun q => ?_)
      · replace k := k.1 q
        refine wp_aload_n 0 dX11_writes_123 rfl ?_
        refine wp_iload 6 dX11_writes_124 rfl ?_
        refine wp_callV (ci := 8) (y' := mX11_put) (st := []) [jI (hA h (hR h 817 a0) ((90 * a4) + a5))] rfl rfl rfl fX11_put kX11_410 nX11_put dX11_writes_126 (Nat.le_of_ble_eq_true rfl) c1 ?_
        refine jCall.mono k (fun o h126_1 k => ?_)
        obtain ⟨e, k⟩ := k
        subst e
        show jWp (d + 1) mX11_writes 129 [(0, jR a0), (1, jI a1), (2, jI a2), (3, jI a3), (4, jI a4), (5, jI a5), (6, jI (hA h (hR h 817 a0) ((90 * a4) + a5)))] [] h126_1 Q
        have c14 := k.1
        replace k := k.2
        refine wp_iinc 5 [1, 2, 3, 4, 5, 0] (ls' := [(0, jR a0), (1, jI a1), (2, jI a2), (3, jI a3), (4, jI a4), (5, jI (a5 + 1))]) dX11_writes_129 rfl c14 ⟨by decide, by decide⟩ (by decide) rfl ?_
        refine wp_goto 79 dX11_writes_132 rfl ?_
        exact k
      · replace k := k.2 q
        refine wp_aload_n 0 dX11_writes_117 rfl ?_
        refine wp_bipush dX11_writes_118 ⟨by decide, by decide⟩ ?_
        refine wp_callV (ci := 8) (y' := mX11_put) (st := []) [jI 92] rfl rfl rfl fX11_put kX11_410 nX11_put dX11_writes_120 (Nat.le_of_ble_eq_true rfl) c1 ?_
        refine jCall.mono k (fun o h120 k => ?_)
        obtain ⟨e, k⟩ := k
        subst e
        show jWp (d + 1) mX11_writes 123 [(0, jR a0), (1, jI a1), (2, jI a2), (3, jI a3), (4, jI a4), (5, jI a5), (6, jI (hA h (hR h 817 a0) ((90 * a4) + a5)))] [] h120 Q
        refine wp_aload_n 0 dX11_writes_123 rfl ?_
        refine wp_iload 6 dX11_writes_124 rfl ?_
        have c15 := k.1
        replace k := k.2
        refine wp_callV (ci := 8) (y' := mX11_put) (st := []) [jI (hA h (hR h 817 a0) ((90 * a4) + a5))] rfl rfl rfl fX11_put kX11_410 nX11_put dX11_writes_126 (Nat.le_of_ble_eq_true rfl) c15 ?_
        refine jCall.mono k (fun o h126_2 k => ?_)
        obtain ⟨e, k⟩ := k
        subst e
        show jWp (d + 1) mX11_writes 129 [(0, jR a0), (1, jI a1), (2, jI a2), (3, jI a3), (4, jI a4), (5, jI a5), (6, jI (hA h (hR h 817 a0) ((90 * a4) + a5)))] [] h126_2 Q
        have c16 := k.1
        replace k := k.2
        refine wp_iinc 5 [1, 2, 3, 4, 5, 0] (ls' := [(0, jR a0), (1, jI a1), (2, jI a2), (3, jI a3), (4, jI a4), (5, jI (a5 + 1))]) dX11_writes_129 rfl c16 ⟨by decide, by decide⟩ (by decide) rfl ?_
        refine wp_goto 79 dX11_writes_132 rfl ?_
        exact k
theorem bX11_write {d : Nat} {h : jH} {Q : jO → jH → Prop} {a0 : Nat} {a1 : Int} (k : jOK h → j32 a1 → hK h a0 = 9 ∧ hK h (hR h 813 a0) = 10 ∧ 0 ≤ (0 : Int) ∧ 0 < hN h (hR h 813 a0) ∧ (j32 (hA h (hR h 813 a0) 0) → jCall d mX11_writes [jR a0, jI 0, jI (hA h (hR h 813 a0) 0), jI a1] (sI h 812 a0 0) (fun o h14 => o = .inl none ∧ hK h14 a0 = 9 ∧ (j32 (hI h14 833 a0) → Q (.inl (some (jI (hI h14 833 a0)))) h14)))) : jCall (d + 1) mX11_write [jR a0, jI a1] h Q := by
  refine jCall_of plX11 (Nat.le_of_ble_eq_true rfl) ?_
  show jWp (d + 1) mX11_write 0 [(0, jR a0), (1, jI a1)] [] h Q
  refine jw_ok (fun ok q => ?_)
  replace k := k ok (q _ (.tail _ (.head _)))
  refine wp_aload_n 0 dX11_write_0 rfl ?_
  refine wp_iconst dX11_write_1 ⟨by decide, by decide⟩ ?_
  have c1 := k.1
  replace k := k.2
  refine wp_putI (ci := 8) (j := 12) rfl (by decide) gX11_48 dX11_write_2 c1 (Or.inl rfl) rfl ?_
  refine wp_aload_n 0 dX11_write_5 rfl ?_
  refine wp_iconst dX11_write_6 ⟨by decide, by decide⟩ ?_
  refine wp_aload_n 0 dX11_write_7 rfl ?_
  refine wp_getR (ci := 8) (j := 13) rfl (by decide) gX11_51 dX11_write_8 c1 rfl ?_
  refine wp_iconst dX11_write_11 ⟨by decide, by decide⟩ ?_
  have c2 := k.1
  replace k := k.2
  have c3 := k.1
  replace k := k.2
  have c4 := k.1
  replace k := k.2
  refine wp_iaload dX11_write_12 c2 c3 c4 (fun q => ?_)
  have f5 := q
  replace k := k q
  refine wp_iload_n 1 dX11_write_13 rfl ?_
  refine wp_callV (ci := 8) (y' := mX11_writes) (st := []) [jI 0, jI (hA h (hR h 813 a0) 0), jI a1] rfl rfl rfl fX11_writes kX11_417 nX11_writes dX11_write_14 (Nat.le_of_ble_eq_true rfl) c1 ?_
  refine jCall.mono k (fun o h14 k => ?_)
  obtain ⟨e, k⟩ := k
  subst e
  show jWp (d + 1) mX11_write 17 [(0, jR a0), (1, jI a1)] [] h14 Q
  refine wp_aload_n 0 dX11_write_17 rfl ?_
  have c6 := k.1
  replace k := k.2
  refine wp_getI (ci := 8) (j := 33) rfl (by decide) gX11_113 dX11_write_18 c6 rfl (fun q => ?_)
  have f7 := q
  replace k := k q
  exact wp_iret dX11_write_21 rfl k
theorem bX11_out {d : Nat} {h : jH} {Q : jO → jH → Prop} {a0 : Nat} {a1 : Int} (k : jOK h → j32 a1 → hK h a0 = 9 ∧ ((a1 < 0 → Q (.inl (some (jI (-1)))) (sI h 812 a0 0)) ∧ (¬ (a1 < 0) → (j32 (hI (sI h 812 a0 0) 833 a0) → ((a1 < (hI (sI h 812 a0 0) 833 a0) → hK h (hR h 832 a0) = 11 ∧ 0 ≤ a1 ∧ a1 < hN h (hR h 832 a0) ∧ ((-128 ≤ hA h (hR h 832 a0) a1 ∧ hA h (hR h 832 a0) a1 ≤ 127) → Q (.inl (some (jI (hA h (hR h 832 a0) a1)))) (sI h 812 a0 0))) ∧ (¬ (a1 < (hI (sI h 812 a0 0) 833 a0)) → Q (.inl (some (jI (-1)))) (sI h 812 a0 0))))))) : jCall d mX11_out [jR a0, jI a1] h Q := by
  refine jCall_of plX11 (Nat.le_of_ble_eq_true rfl) ?_
  show jWp d mX11_out 0 [(0, jR a0), (1, jI a1)] [] h Q
  refine jw_ok (fun ok q => ?_)
  replace k := k ok (q _ (.tail _ (.head _)))
  refine wp_aload_n 0 dX11_out_0 rfl ?_
  refine wp_iconst dX11_out_1 ⟨by decide, by decide⟩ ?_
  have c1 := k.1
  replace k := k.2
  refine wp_putI (ci := 8) (j := 12) rfl (by decide) gX11_48 dX11_out_2 c1 (Or.inl rfl) rfl ?_
  refine wp_iload_n 1 dX11_out_5 rfl ?_
  refine wp_if_lt 17 dX11_out_6 rfl (fun q => ?_) (fun q => ?_)
  · replace k := k.1 q
    refine wp_iconst dX11_out_17 ⟨by decide, by decide⟩ ?_
    refine wp_goto 27 dX11_out_18 rfl ?_
    exact wp_iret dX11_out_27 rfl k
  · replace k := k.2 q
    refine wp_iload_n 1 dX11_out_9 rfl ?_
    refine wp_aload_n 0 dX11_out_10 rfl ?_
    refine wp_getI (ci := 8) (j := 33) rfl (by decide) gX11_113 dX11_out_11 c1 rfl (fun q => ?_)
    have f2 := q
    replace k := k q
    refine wp_icmp_lt 21 dX11_out_14 rfl (fun q => ?_) (fun q => ?_)
    · replace k := k.1 q
      refine wp_aload_n 0 dX11_out_21 rfl ?_
      refine wp_getR (ci := 8) (j := 32) rfl (by decide) gX11_110 dX11_out_22 c1 rfl ?_
      refine wp_iload_n 1 dX11_out_25 rfl ?_
      have c3 := k.1
      replace k := k.2
      have c4 := k.1
      replace k := k.2
      have c5 := k.1
      replace k := k.2
      refine wp_baload dX11_out_26 c3 c4 c5 (fun q => ?_)
      have f6 := q
      replace k := k q
      exact wp_iret dX11_out_27 rfl k
    · replace k := k.2 q
      refine wp_iconst dX11_out_17 ⟨by decide, by decide⟩ ?_
      refine wp_goto 27 dX11_out_18 rfl ?_
      exact wp_iret dX11_out_27 rfl k
theorem bX11_arrange {d : Nat} {h : jH} {Q : jO → jH → Prop} {a0 : Nat} (k : jOK h → hK h a0 = 9 ∧ jWp (d + 1) mX11_arrange 11 [(0, jR a0), (1, jI 0), (2, jI 0), (3, jI 0)] [] (sI h 812 a0 0) Q) : jCall (d + 1) mX11_arrange [jR a0] h Q := by
  refine jCall_of plX11 (Nat.le_of_ble_eq_true rfl) ?_
  show jWp (d + 1) mX11_arrange 0 [(0, jR a0)] [] h Q
  refine jw_ok (fun ok q => ?_)
  replace k := k ok 
  refine wp_aload_n 0 dX11_arrange_0 rfl ?_
  refine wp_iconst dX11_arrange_1 ⟨by decide, by decide⟩ ?_
  have c1 := k.1
  replace k := k.2
  refine wp_putI (ci := 8) (j := 12) rfl (by decide) gX11_48 dX11_arrange_2 c1 (Or.inl rfl) rfl ?_
  refine wp_iconst dX11_arrange_5 ⟨by decide, by decide⟩ ?_
  refine wp_istore_n [1, 0] (ls' := [(0, jR a0), (1, jI 0)]) dX11_arrange_6 (by decide) rfl ?_
  refine wp_iconst dX11_arrange_7 ⟨by decide, by decide⟩ ?_
  refine wp_istore_n [1, 2, 0] (ls' := [(0, jR a0), (1, jI 0), (2, jI 0)]) dX11_arrange_8 (by decide) rfl ?_
  refine wp_iconst dX11_arrange_9 ⟨by decide, by decide⟩ ?_
  refine wp_istore_n [1, 2, 3, 0] (ls' := [(0, jR a0), (1, jI 0), (2, jI 0), (3, jI 0)]) dX11_arrange_10 (by decide) rfl ?_
  exact k
theorem bX11_arrange_11 {d : Nat} {h : jH} {Q : jO → jH → Prop} {a0 : Nat} {a1 : Int} {a2 : Int} {a3 : Int} (k : jOK h → j32 a1 → j32 a2 → j32 a3 → ((2 ≤ a3 → hK h a0 = 9 ∧ hK h (hR h 813 a0) = 10 ∧ 0 ≤ (9 : Int) ∧ 9 < hN h (hR h 813 a0) ∧ jCall d mX11_copyAll [jR a0, jI 9, jI 0] (sA h (hR h 813 a0) 9 a1) (fun o h102 => ∃ v102, o = .inl (some (jI v102)) ∧ Q (.inl (some (jI a2))) h102)) ∧ (¬ (2 ≤ a3) → jWp (d + 1) mX11_arrange 19 [(0, jR a0), (1, jI a1), (2, jI a2), (3, jI a3), (4, jI 0)] [] h Q))) : jWp (d + 1) mX11_arrange 11 [(0, jR a0), (1, jI a1), (2, jI a2), (3, jI a3)] [] h Q := by
  refine jw_ok (fun ok q => ?_)
  replace k := k ok (q _ (.tail _ (.head _))) (q _ (.tail _ (.tail _ (.head _)))) (q _ (.tail _ (.tail _ (.tail _ (.head _)))))
  refine wp_iload_n 3 dX11_arrange_11 rfl ?_
  refine wp_iconst dX11_arrange_12 ⟨by decide, by decide⟩ ?_
  refine wp_icmp_ge 90 dX11_arrange_13 rfl (fun q => ?_) (fun q => ?_)
  · replace k := k.1 q
    refine wp_aload_n 0 dX11_arrange_90 rfl ?_
    have c1 := k.1
    replace k := k.2
    refine wp_getR (ci := 8) (j := 13) rfl (by decide) gX11_51 dX11_arrange_91 c1 rfl ?_
    refine wp_bipush dX11_arrange_94 ⟨by decide, by decide⟩ ?_
    refine wp_iload_n 1 dX11_arrange_96 rfl ?_
    have c2 := k.1
    replace k := k.2
    have c3 := k.1
    replace k := k.2
    have c4 := k.1
    replace k := k.2
    refine wp_iastore dX11_arrange_97 c2 c3 c4 ?_
    refine wp_aload_n 0 dX11_arrange_98 rfl ?_
    refine wp_bipush dX11_arrange_99 ⟨by decide, by decide⟩ ?_
    refine wp_iconst dX11_arrange_101 ⟨by decide, by decide⟩ ?_
    refine wp_callV (ci := 8) (y' := mX11_copyAll) (st := []) [jI 9, jI 0] rfl rfl rfl fX11_copyAll kX11_380 nX11_copyAll dX11_arrange_102 (Nat.le_of_ble_eq_true rfl) c1 ?_
    refine jCall.mono k (fun o h102 k => ?_)
    obtain ⟨v102, e, k⟩ := k
    subst e
    show jWp (d + 1) mX11_arrange 105 [(0, jR a0), (1, jI a1), (2, jI a2), (3, jI a3)] [jI v102] h102 Q
    refine wp_pop dX11_arrange_105 rfl ?_
    refine wp_iload_n 2 dX11_arrange_106 rfl ?_
    exact wp_iret dX11_arrange_107 rfl k
  · replace k := k.2 q
    refine wp_iconst dX11_arrange_16 ⟨by decide, by decide⟩ ?_
    refine wp_istore [1, 2, 3, 4, 0] (ls' := [(0, jR a0), (1, jI a1), (2, jI a2), (3, jI a3), (4, jI 0)]) dX11_arrange_17 (by decide) rfl ?_
    exact k
theorem bX11_arrange_19 {d : Nat} {h : jH} {Q : jO → jH → Prop} {a0 : Nat} {a1 : Int} {a2 : Int} {a3 : Int} {a4 : Int} (k : jOK h → j32 a1 → j32 a2 → j32 a3 → j32 a4 → hK h a0 = 9 ∧ hK h (hR h 813 a0) = 10 ∧ 0 ≤ (0 : Int) ∧ 0 < hN h (hR h 813 a0) ∧ (j32 (hA h (hR h 813 a0) 0) → (((hA h (hR h 813 a0) 0) ≤ a4 → j32 (a3 + 1) ∧ jWp (d + 1) mX11_arrange 11 [(0, jR a0), (1, jI a1), (2, jI a2), (3, jI (a3 + 1))] [] h Q) ∧ (¬ ((hA h (hR h 813 a0) 0) ≤ a4) → hK h (hR h 814 a0) = 10 ∧ 0 ≤ a4 ∧ a4 < hN h (hR h 814 a0) ∧ (j32 (hA h (hR h 814 a0) a4) → jCall d mX11_isFixed [jR a0, jI (hA h (hR h 814 a0) a4)] h (fun o h38 => ∃ v38, o = .inl (some (jI v38)) ∧ ((a3 ≠ 0 → ((v38 = 0 → ((a4 = a1 → hK h38 a0 = 9 ∧ jCall d mX11_copy [jR a0, jI 0, jI a4, jI 9, jI a1] h38 (fun o h72 => o = .inl none ∧ j32 (a1 + 1) ∧ j32 (a4 + 1) ∧ jWp (d + 1) mX11_arrange 19 [(0, jR a0), (1, jI (a1 + 1)), (2, jI a2), (3, jI a3), (4, jI (a4 + 1))] [] h72 Q)) ∧ (¬ (a4 = a1) → j32 (a2 + 1) ∧ hK h38 a0 = 9 ∧ jCall d mX11_copy [jR a0, jI 0, jI a4, jI 9, jI a1] h38 (fun o h72_1 => o = .inl none ∧ j32 (a1 + 1) ∧ j32 (a4 + 1) ∧ jWp (d + 1) mX11_arrange 19 [(0, jR a0), (1, jI (a1 + 1)), (2, jI (a2 + 1)), (3, jI a3), (4, jI (a4 + 1))] [] h72_1 Q)))) ∧ (¬ (v38 = 0) → j32 (a4 + 1) ∧ jWp (d + 1) mX11_arrange 19 [(0, jR a0), (1, jI a1), (2, jI a2), (3, jI a3), (4, jI (a4 + 1))] [] h38 Q))) ∧ (a3 = 0 → ((v38 = 1 → ((a4 = a1 → hK h38 a0 = 9 ∧ jCall d mX11_copy [jR a0, jI 0, jI a4, jI 9, jI a1] h38 (fun o h72_2 => o = .inl none ∧ j32 (a1 + 1) ∧ j32 (a4 + 1) ∧ jWp (d + 1) mX11_arrange 19 [(0, jR a0), (1, jI (a1 + 1)), (2, jI a2), (3, jI a3), (4, jI (a4 + 1))] [] h72_2 Q)) ∧ (¬ (a4 = a1) → j32 (a2 + 1) ∧ hK h38 a0 = 9 ∧ jCall d mX11_copy [jR a0, jI 0, jI a4, jI 9, jI a1] h38 (fun o h72_3 => o = .inl none ∧ j32 (a1 + 1) ∧ j32 (a4 + 1) ∧ jWp (d + 1) mX11_arrange 19 [(0, jR a0), (1, jI (a1 + 1)), (2, jI (a2 + 1)), (3, jI a3), (4, jI (a4 + 1))] [] h72_3 Q)))) ∧ (¬ (v38 = 1) → j32 (a4 + 1) ∧ jWp (d + 1) mX11_arrange 19 [(0, jR a0), (1, jI a1), (2, jI a2), (3, jI a3), (4, jI (a4 + 1))] [] h38 Q)))))))))) : jWp (d + 1) mX11_arrange 19 [(0, jR a0), (1, jI a1), (2, jI a2), (3, jI a3), (4, jI a4)] [] h Q := by
  refine jw_ok (fun ok q => ?_)
  replace k := k ok (q _ (.tail _ (.head _))) (q _ (.tail _ (.tail _ (.head _)))) (q _ (.tail _ (.tail _ (.tail _ (.head _))))) (q _ (.tail _ (.tail _ (.tail _ (.tail _ (.head _))))))
  refine wp_iload 4 dX11_arrange_19 rfl ?_
  refine wp_aload_n 0 dX11_arrange_21 rfl ?_
  have c1 := k.1
  replace k := k.2
  refine wp_getR (ci := 8) (j := 13) rfl (by decide) gX11_51 dX11_arrange_22 c1 rfl ?_
  refine wp_iconst dX11_arrange_25 ⟨by decide, by decide⟩ ?_
  have c2 := k.1
  replace k := k.2
  have c3 := k.1
  replace k := k.2
  have c4 := k.1
  replace k := k.2
  refine wp_iaload dX11_arrange_26 c2 c3 c4 (fun q => ?_)
  have f5 := q
  replace k := k q
  refine wp_icmp_ge 84 dX11_arrange_27 rfl (fun q => ?_) (fun q => ?_)
  · replace k := k.1 q
    have c6 := k.1
    replace k := k.2
    refine wp_iinc 3 [1, 2, 3, 0] (ls' := [(0, jR a0), (1, jI a1), (2, jI a2), (3, jI (a3 + 1))]) dX11_arrange_84 rfl c6 ⟨by decide, by decide⟩ (by decide) rfl ?_
    refine wp_goto 11 dX11_arrange_87 rfl ?_
    exact k
  · replace k := k.2 q
    refine wp_aload_n 0 dX11_arrange_30 rfl ?_
    refine wp_aload_n 0 dX11_arrange_31 rfl ?_
    refine wp_getR (ci := 8) (j := 14) rfl (by decide) gX11_54 dX11_arrange_32 c1 rfl ?_
    refine wp_iload 4 dX11_arrange_35 rfl ?_
    have c7 := k.1
    replace k := k.2
    have c8 := k.1
    replace k := k.2
    have c9 := k.1
    replace k := k.2
    refine wp_iaload dX11_arrange_37 c7 c8 c9 (fun q => ?_)
    have f10 := q
    replace k := k q
    refine wp_callV (ci := 8) (y' := mX11_isFixed) (st := []) [jI (hA h (hR h 814 a0) a4)] rfl rfl rfl fX11_isFixed kX11_317 nX11_isFixed dX11_arrange_38 (Nat.le_of_ble_eq_true rfl) c1 ?_
    refine jCall.mono k (fun o h38 k => ?_)
    obtain ⟨v38, e, k⟩ := k
    subst e
    show jWp (d + 1) mX11_arrange 41 [(0, jR a0), (1, jI a1), (2, jI a2), (3, jI a3), (4, jI a4)] [jI v38] h38 Q
    refine wp_iload_n 3 dX11_arrange_41 rfl ?_
    refine wp_if_ne 49 dX11_arrange_42 rfl (fun q => ?_) (fun q => ?_)
    · replace k := k.1 q
      refine wp_iconst dX11_arrange_49 ⟨by decide, by decide⟩ ?_
      refine wp_icmp_eq 56 dX11_arrange_50 rfl (fun q => ?_) (fun q => ?_)
      · replace k := k.1 q
        refine wp_iload 4 dX11_arrange_56 rfl ?_
        refine wp_iload_n 1 dX11_arrange_58 rfl ?_
        refine wp_icmp_eq 65 dX11_arrange_59 rfl (fun q => ?_) (fun q => ?_)
        · replace k := k.1 q
          refine wp_aload_n 0 dX11_arrange_65 rfl ?_
          refine wp_iconst dX11_arrange_66 ⟨by decide, by decide⟩ ?_
          refine wp_iload 4 dX11_arrange_67 rfl ?_
          refine wp_bipush dX11_arrange_69 ⟨by decide, by decide⟩ ?_
          refine wp_iload_n 1 dX11_arrange_71 rfl ?_
          have c11 := k.1
          replace k := k.2
          refine wp_callV (ci := 8) (y' := mX11_copy) (st := []) [jI 0, jI a4, jI 9, jI a1] rfl rfl rfl fX11_copy kX11_293 nX11_copy dX11_arrange_72 (Nat.le_of_ble_eq_true rfl) c11 ?_
          refine jCall.mono k (fun o h72 k => ?_)
          obtain ⟨e, k⟩ := k
          subst e
          show jWp (d + 1) mX11_arrange 75 [(0, jR a0), (1, jI a1), (2, jI a2), (3, jI a3), (4, jI a4)] [] h72 Q
          have c12 := k.1
          replace k := k.2
          refine wp_iinc 1 [1, 0, 2, 3, 4] (ls' := [(0, jR a0), (1, jI (a1 + 1)), (2, jI a2), (3, jI a3), (4, jI a4)]) dX11_arrange_75 rfl c12 ⟨by decide, by decide⟩ (by decide) rfl ?_
          have c13 := k.1
          replace k := k.2
          refine wp_iinc 4 [1, 2, 3, 4, 0] (ls' := [(0, jR a0), (1, jI (a1 + 1)), (2, jI a2), (3, jI a3), (4, jI (a4 + 1))]) dX11_arrange_78 rfl c13 ⟨by decide, by decide⟩ (by decide) rfl ?_
          refine wp_goto 19 dX11_arrange_81 rfl ?_
          exact k
        · replace k := k.2 q
          have c14 := k.1
          replace k := k.2
          refine wp_iinc 2 [1, 2, 0, 3, 4] (ls' := [(0, jR a0), (1, jI a1), (2, jI (a2 + 1)), (3, jI a3), (4, jI a4)]) dX11_arrange_62 rfl c14 ⟨by decide, by decide⟩ (by decide) rfl ?_
          refine wp_aload_n 0 dX11_arrange_65 rfl ?_
          refine wp_iconst dX11_arrange_66 ⟨by decide, by decide⟩ ?_
          refine wp_iload 4 dX11_arrange_67 rfl ?_
          refine wp_bipush dX11_arrange_69 ⟨by decide, by decide⟩ ?_
          refine wp_iload_n 1 dX11_arrange_71 rfl ?_
          have c15 := k.1
          replace k := k.2
          refine wp_callV (ci := 8) (y' := mX11_copy) (st := []) [jI 0, jI a4, jI 9, jI a1] rfl rfl rfl fX11_copy kX11_293 nX11_copy dX11_arrange_72 (Nat.le_of_ble_eq_true rfl) c15 ?_
          refine jCall.mono k (fun o h72_1 k => ?_)
          obtain ⟨e, k⟩ := k
          subst e
          show jWp (d + 1) mX11_arrange 75 [(0, jR a0), (1, jI a1), (2, jI (a2 + 1)), (3, jI a3), (4, jI a4)] [] h72_1 Q
          have c16 := k.1
          replace k := k.2
          refine wp_iinc 1 [1, 0, 2, 3, 4] (ls' := [(0, jR a0), (1, jI (a1 + 1)), (2, jI (a2 + 1)), (3, jI a3), (4, jI a4)]) dX11_arrange_75 rfl c16 ⟨by decide, by decide⟩ (by decide) rfl ?_
          have c17 := k.1
          replace k := k.2
          refine wp_iinc 4 [1, 2, 3, 4, 0] (ls' := [(0, jR a0), (1, jI (a1 + 1)), (2, jI (a2 + 1)), (3, jI a3), (4, jI (a4 + 1))]) dX11_arrange_78 rfl c17 ⟨by decide, by decide⟩ (by decide) rfl ?_
          refine wp_goto 19 dX11_arrange_81 rfl ?_
          exact k
      · replace k := k.2 q
        refine wp_goto 78 dX11_arrange_53 rfl ?_
        have c18 := k.1
        replace k := k.2
        refine wp_iinc 4 [1, 2, 3, 4, 0] (ls' := [(0, jR a0), (1, jI a1), (2, jI a2), (3, jI a3), (4, jI (a4 + 1))]) dX11_arrange_78 rfl c18 ⟨by decide, by decide⟩ (by decide) rfl ?_
        refine wp_goto 19 dX11_arrange_81 rfl ?_
        exact k
    · replace k := k.2 q
      refine wp_iconst dX11_arrange_45 ⟨by decide, by decide⟩ ?_
      refine wp_goto 50 dX11_arrange_46 rfl ?_
      refine wp_icmp_eq 56 dX11_arrange_50 rfl (fun q => ?_) (fun q => ?_)
      · replace k := k.1 q
        refine wp_iload 4 dX11_arrange_56 rfl ?_
        refine wp_iload_n 1 dX11_arrange_58 rfl ?_
        refine wp_icmp_eq 65 dX11_arrange_59 rfl (fun q => ?_) (fun q => ?_)
        · replace k := k.1 q
          refine wp_aload_n 0 dX11_arrange_65 rfl ?_
          refine wp_iconst dX11_arrange_66 ⟨by decide, by decide⟩ ?_
          refine wp_iload 4 dX11_arrange_67 rfl ?_
          refine wp_bipush dX11_arrange_69 ⟨by decide, by decide⟩ ?_
          refine wp_iload_n 1 dX11_arrange_71 rfl ?_
          have c19 := k.1
          replace k := k.2
          refine wp_callV (ci := 8) (y' := mX11_copy) (st := []) [jI 0, jI a4, jI 9, jI a1] rfl rfl rfl fX11_copy kX11_293 nX11_copy dX11_arrange_72 (Nat.le_of_ble_eq_true rfl) c19 ?_
          refine jCall.mono k (fun o h72_2 k => ?_)
          obtain ⟨e, k⟩ := k
          subst e
          show jWp (d + 1) mX11_arrange 75 [(0, jR a0), (1, jI a1), (2, jI a2), (3, jI a3), (4, jI a4)] [] h72_2 Q
          have c20 := k.1
          replace k := k.2
          refine wp_iinc 1 [1, 0, 2, 3, 4] (ls' := [(0, jR a0), (1, jI (a1 + 1)), (2, jI a2), (3, jI a3), (4, jI a4)]) dX11_arrange_75 rfl c20 ⟨by decide, by decide⟩ (by decide) rfl ?_
          have c21 := k.1
          replace k := k.2
          refine wp_iinc 4 [1, 2, 3, 4, 0] (ls' := [(0, jR a0), (1, jI (a1 + 1)), (2, jI a2), (3, jI a3), (4, jI (a4 + 1))]) dX11_arrange_78 rfl c21 ⟨by decide, by decide⟩ (by decide) rfl ?_
          refine wp_goto 19 dX11_arrange_81 rfl ?_
          exact k
        · replace k := k.2 q
          have c22 := k.1
          replace k := k.2
          refine wp_iinc 2 [1, 2, 0, 3, 4] (ls' := [(0, jR a0), (1, jI a1), (2, jI (a2 + 1)), (3, jI a3), (4, jI a4)]) dX11_arrange_62 rfl c22 ⟨by decide, by decide⟩ (by decide) rfl ?_
          refine wp_aload_n 0 dX11_arrange_65 rfl ?_
          refine wp_iconst dX11_arrange_66 ⟨by decide, by decide⟩ ?_
          refine wp_iload 4 dX11_arrange_67 rfl ?_
          refine wp_bipush dX11_arrange_69 ⟨by decide, by decide⟩ ?_
          refine wp_iload_n 1 dX11_arrange_71 rfl ?_
          have c23 := k.1
          replace k := k.2
          refine wp_callV (ci := 8) (y' := mX11_copy) (st := []) [jI 0, jI a4, jI 9, jI a1] rfl rfl rfl fX11_copy kX11_293 nX11_copy dX11_arrange_72 (Nat.le_of_ble_eq_true rfl) c23 ?_
          refine jCall.mono k (fun o h72_3 k => ?_)
          obtain ⟨e, k⟩ := k
          subst e
          show jWp (d + 1) mX11_arrange 75 [(0, jR a0), (1, jI a1), (2, jI (a2 + 1)), (3, jI a3), (4, jI a4)] [] h72_3 Q
          have c24 := k.1
          replace k := k.2
          refine wp_iinc 1 [1, 0, 2, 3, 4] (ls' := [(0, jR a0), (1, jI (a1 + 1)), (2, jI (a2 + 1)), (3, jI a3), (4, jI a4)]) dX11_arrange_75 rfl c24 ⟨by decide, by decide⟩ (by decide) rfl ?_
          have c25 := k.1
          replace k := k.2
          refine wp_iinc 4 [1, 2, 3, 4, 0] (ls' := [(0, jR a0), (1, jI (a1 + 1)), (2, jI (a2 + 1)), (3, jI a3), (4, jI (a4 + 1))]) dX11_arrange_78 rfl c25 ⟨by decide, by decide⟩ (by decide) rfl ?_
          refine wp_goto 19 dX11_arrange_81 rfl ?_
          exact k
      · replace k := k.2 q
        refine wp_goto 78 dX11_arrange_53 rfl ?_
        have c26 := k.1
        replace k := k.2
        refine wp_iinc 4 [1, 2, 3, 4, 0] (ls' := [(0, jR a0), (1, jI a1), (2, jI a2), (3, jI a3), (4, jI (a4 + 1))]) dX11_arrange_78 rfl c26 ⟨by decide, by decide⟩ (by decide) rfl ?_
        refine wp_goto 19 dX11_arrange_81 rfl ?_
        exact k
theorem bX11_isNoShelf {d : Nat} {h : jH} {Q : jO → jH → Prop} {a0 : Nat} {a1 : Int} (k : jOK h → j32 a1 → ((a1 < 0 → hK h a0 = 9 ∧ jCall d mX11_throwing [jR a0, jI 1] h (fun o h12 => ∃ v12, o = .inl (some (jI v12)) ∧ ((v12 = 0 → Q (.inl (some (jI 0))) h12) ∧ (¬ (v12 = 0) → Q (.inl (some (jI 1))) h12)))) ∧ (¬ (a1 < 0) → ((a1 ≤ 7 → Q (.inl (some (jI 0))) h) ∧ (¬ (a1 ≤ 7) → hK h a0 = 9 ∧ jCall d mX11_throwing [jR a0, jI 1] h (fun o h12_1 => ∃ v12_1, o = .inl (some (jI v12_1)) ∧ ((v12_1 = 0 → Q (.inl (some (jI 0))) h12_1) ∧ (¬ (v12_1 = 0) → Q (.inl (some (jI 1))) h12_1)))))))) : jCall (d + 1) mX11_isNoShelf [jR a0, jI a1] h Q := by
  refine jCall_of plX11 (Nat.le_of_ble_eq_true rfl) ?_
  show jWp (d + 1) mX11_isNoShelf 0 [(0, jR a0), (1, jI a1)] [] h Q
  refine jw_ok (fun ok q => ?_)
  replace k := k ok (q _ (.tail _ (.head _)))
  refine wp_iload_n 1 dX11_isNoShelf_0 rfl ?_
  refine wp_if_lt 10 dX11_isNoShelf_1 rfl (fun q => ?_) (fun q => ?_)
  · replace k := k.1 q
    refine wp_aload_n 0 dX11_isNoShelf_10 rfl ?_
    refine wp_iconst dX11_isNoShelf_11 ⟨by decide, by decide⟩ ?_
    have c1 := k.1
    replace k := k.2
    refine wp_callV (ci := 8) (y' := mX11_throwing) (st := []) [jI 1] rfl rfl rfl fX11_throwing kX11_394 nX11_throwing dX11_isNoShelf_12 (Nat.le_of_ble_eq_true rfl) c1 ?_
    refine jCall.mono k (fun o h12 k => ?_)
    obtain ⟨v12, e, k⟩ := k
    subst e
    show jWp (d + 1) mX11_isNoShelf 15 [(0, jR a0), (1, jI a1)] [jI v12] h12 Q
    refine wp_if_eq 22 dX11_isNoShelf_15 rfl (fun q => ?_) (fun q => ?_)
    · replace k := k.1 q
      refine wp_iconst dX11_isNoShelf_22 ⟨by decide, by decide⟩ ?_
      exact wp_zreturn dX11_isNoShelf_23 rfl (by decide) (by decide) k
    · replace k := k.2 q
      refine wp_iconst dX11_isNoShelf_18 ⟨by decide, by decide⟩ ?_
      refine wp_goto 23 dX11_isNoShelf_19 rfl ?_
      exact wp_zreturn dX11_isNoShelf_23 rfl (by decide) (by decide) k
  · replace k := k.2 q
    refine wp_iload_n 1 dX11_isNoShelf_4 rfl ?_
    refine wp_bipush dX11_isNoShelf_5 ⟨by decide, by decide⟩ ?_
    refine wp_icmp_le 22 dX11_isNoShelf_7 rfl (fun q => ?_) (fun q => ?_)
    · replace k := k.1 q
      refine wp_iconst dX11_isNoShelf_22 ⟨by decide, by decide⟩ ?_
      exact wp_zreturn dX11_isNoShelf_23 rfl (by decide) (by decide) k
    · replace k := k.2 q
      refine wp_aload_n 0 dX11_isNoShelf_10 rfl ?_
      refine wp_iconst dX11_isNoShelf_11 ⟨by decide, by decide⟩ ?_
      have c2 := k.1
      replace k := k.2
      refine wp_callV (ci := 8) (y' := mX11_throwing) (st := []) [jI 1] rfl rfl rfl fX11_throwing kX11_394 nX11_throwing dX11_isNoShelf_12 (Nat.le_of_ble_eq_true rfl) c2 ?_
      refine jCall.mono k (fun o h12_1 k => ?_)
      obtain ⟨v12_1, e, k⟩ := k
      subst e
      show jWp (d + 1) mX11_isNoShelf 15 [(0, jR a0), (1, jI a1)] [jI v12_1] h12_1 Q
      refine wp_if_eq 22 dX11_isNoShelf_15 rfl (fun q => ?_) (fun q => ?_)
      · replace k := k.1 q
        refine wp_iconst dX11_isNoShelf_22 ⟨by decide, by decide⟩ ?_
        exact wp_zreturn dX11_isNoShelf_23 rfl (by decide) (by decide) k
      · replace k := k.2 q
        refine wp_iconst dX11_isNoShelf_18 ⟨by decide, by decide⟩ ?_
        refine wp_goto 23 dX11_isNoShelf_19 rfl ?_
        exact wp_zreturn dX11_isNoShelf_23 rfl (by decide) (by decide) k
theorem bX11_shelve {d : Nat} {h : jH} {Q : jO → jH → Prop} {a0 : Nat} {a1 : Int} (k : jOK h → j32 a1 → hK h a0 = 9 ∧ jCall d mX11_isNoShelf [jR a0, jI a1] (sI h 812 a0 0) (fun o h7 => ∃ v7, o = .inl (some (jI v7)) ∧ ((v7 = 0 → j32 (1 + a1) ∧ hK h7 a0 = 9 ∧ jCall d mX11_copyAll [jR a0, jI 0, jI (1 + a1)] h7 (fun o h22 => ∃ v22, o = .inl (some (jI v22)) ∧ Q (.inl (some (jI v22))) h22)) ∧ (¬ (v7 = 0) → Q (.inl (some (jI (-1)))) h7)))) : jCall (d + 1) mX11_shelve [jR a0, jI a1] h Q := by
  refine jCall_of plX11 (Nat.le_of_ble_eq_true rfl) ?_
  show jWp (d + 1) mX11_shelve 0 [(0, jR a0), (1, jI a1)] [] h Q
  refine jw_ok (fun ok q => ?_)
  replace k := k ok (q _ (.tail _ (.head _)))
  refine wp_aload_n 0 dX11_shelve_0 rfl ?_
  refine wp_iconst dX11_shelve_1 ⟨by decide, by decide⟩ ?_
  have c1 := k.1
  replace k := k.2
  refine wp_putI (ci := 8) (j := 12) rfl (by decide) gX11_48 dX11_shelve_2 c1 (Or.inl rfl) rfl ?_
  refine wp_aload_n 0 dX11_shelve_5 rfl ?_
  refine wp_iload_n 1 dX11_shelve_6 rfl ?_
  refine wp_callV (ci := 8) (y' := mX11_isNoShelf) (st := []) [jI a1] rfl rfl rfl fX11_isNoShelf kX11_421 nX11_isNoShelf dX11_shelve_7 (Nat.le_of_ble_eq_true rfl) c1 ?_
  refine jCall.mono k (fun o h7 k => ?_)
  obtain ⟨v7, e, k⟩ := k
  subst e
  show jWp (d + 1) mX11_shelve 10 [(0, jR a0), (1, jI a1)] [jI v7] h7 Q
  refine wp_if_eq 17 dX11_shelve_10 rfl (fun q => ?_) (fun q => ?_)
  · replace k := k.1 q
    refine wp_aload_n 0 dX11_shelve_17 rfl ?_
    refine wp_iconst dX11_shelve_18 ⟨by decide, by decide⟩ ?_
    refine wp_iconst dX11_shelve_19 ⟨by decide, by decide⟩ ?_
    refine wp_iload_n 1 dX11_shelve_20 rfl ?_
    have c2 := k.1
    replace k := k.2
    refine wp_iadd dX11_shelve_21 c2 ?_
    have c3 := k.1
    replace k := k.2
    refine wp_callV (ci := 8) (y' := mX11_copyAll) (st := []) [jI 0, jI (1 + a1)] rfl rfl rfl fX11_copyAll kX11_380 nX11_copyAll dX11_shelve_22 (Nat.le_of_ble_eq_true rfl) c3 ?_
    refine jCall.mono k (fun o h22 k => ?_)
    obtain ⟨v22, e, k⟩ := k
    subst e
    show jWp (d + 1) mX11_shelve 25 [(0, jR a0), (1, jI a1)] [jI v22] h22 Q
    exact wp_iret dX11_shelve_25 rfl k
  · replace k := k.2 q
    refine wp_iconst dX11_shelve_13 ⟨by decide, by decide⟩ ?_
    refine wp_goto 25 dX11_shelve_14 rfl ?_
    exact wp_iret dX11_shelve_25 rfl k
theorem bX11_fetch {d : Nat} {h : jH} {Q : jO → jH → Prop} {a0 : Nat} {a1 : Int} (k : jOK h → j32 a1 → hK h a0 = 9 ∧ jCall d mX11_isNoShelf [jR a0, jI a1] (sI h 812 a0 0) (fun o h7 => ∃ v7, o = .inl (some (jI v7)) ∧ ((v7 = 0 → j32 (1 + a1) ∧ hK h7 a0 = 9 ∧ jCall d mX11_copyAll [jR a0, jI (1 + a1), jI 0] h7 (fun o h22 => ∃ v22, o = .inl (some (jI v22)) ∧ Q (.inl (some (jI v22))) h22)) ∧ (¬ (v7 = 0) → Q (.inl (some (jI (-1)))) h7)))) : jCall (d + 1) mX11_fetch [jR a0, jI a1] h Q := by
  refine jCall_of plX11 (Nat.le_of_ble_eq_true rfl) ?_
  show jWp (d + 1) mX11_fetch 0 [(0, jR a0), (1, jI a1)] [] h Q
  refine jw_ok (fun ok q => ?_)
  replace k := k ok (q _ (.tail _ (.head _)))
  refine wp_aload_n 0 dX11_fetch_0 rfl ?_
  refine wp_iconst dX11_fetch_1 ⟨by decide, by decide⟩ ?_
  have c1 := k.1
  replace k := k.2
  refine wp_putI (ci := 8) (j := 12) rfl (by decide) gX11_48 dX11_fetch_2 c1 (Or.inl rfl) rfl ?_
  refine wp_aload_n 0 dX11_fetch_5 rfl ?_
  refine wp_iload_n 1 dX11_fetch_6 rfl ?_
  refine wp_callV (ci := 8) (y' := mX11_isNoShelf) (st := []) [jI a1] rfl rfl rfl fX11_isNoShelf kX11_421 nX11_isNoShelf dX11_fetch_7 (Nat.le_of_ble_eq_true rfl) c1 ?_
  refine jCall.mono k (fun o h7 k => ?_)
  obtain ⟨v7, e, k⟩ := k
  subst e
  show jWp (d + 1) mX11_fetch 10 [(0, jR a0), (1, jI a1)] [jI v7] h7 Q
  refine wp_if_eq 17 dX11_fetch_10 rfl (fun q => ?_) (fun q => ?_)
  · replace k := k.1 q
    refine wp_aload_n 0 dX11_fetch_17 rfl ?_
    refine wp_iconst dX11_fetch_18 ⟨by decide, by decide⟩ ?_
    refine wp_iload_n 1 dX11_fetch_19 rfl ?_
    have c2 := k.1
    replace k := k.2
    refine wp_iadd dX11_fetch_20 c2 ?_
    refine wp_iconst dX11_fetch_21 ⟨by decide, by decide⟩ ?_
    have c3 := k.1
    replace k := k.2
    refine wp_callV (ci := 8) (y' := mX11_copyAll) (st := []) [jI (1 + a1), jI 0] rfl rfl rfl fX11_copyAll kX11_380 nX11_copyAll dX11_fetch_22 (Nat.le_of_ble_eq_true rfl) c3 ?_
    refine jCall.mono k (fun o h22 k => ?_)
    obtain ⟨v22, e, k⟩ := k
    subst e
    show jWp (d + 1) mX11_fetch 25 [(0, jR a0), (1, jI a1)] [jI v22] h22 Q
    exact wp_iret dX11_fetch_25 rfl k
  · replace k := k.2 q
    refine wp_iconst dX11_fetch_13 ⟨by decide, by decide⟩ ?_
    refine wp_goto 25 dX11_fetch_14 rfl ?_
    exact wp_iret dX11_fetch_25 rfl k
theorem bX11_same {d : Nat} {h : jH} {Q : jO → jH → Prop} {a0 : Nat} {a1 : Int} (k : jOK h → j32 a1 → hK h a0 = 9 ∧ jCall d mX11_isNoShelf [jR a0, jI a1] (sI h 812 a0 0) (fun o h7 => ∃ v7, o = .inl (some (jI v7)) ∧ ((v7 = 0 → hK h7 a0 = 9 ∧ hK h7 (hR h7 813 a0) = 10 ∧ 0 ≤ (0 : Int) ∧ 0 < hN h7 (hR h7 813 a0) ∧ (j32 (hA h7 (hR h7 813 a0) 0) → j32 (1 + a1) ∧ 0 ≤ (1 + a1) ∧ (1 + a1) < hN h7 (hR h7 813 a0) ∧ (j32 (hA h7 (hR h7 813 a0) (1 + a1)) → (((hA h7 (hR h7 813 a0) 0) ≠ (hA h7 (hR h7 813 a0) (1 + a1)) → jWp (d + 1) mX11_same 40 [(0, jR a0), (1, jI a1), (2, jI 0), (3, jI 0)] [] h7 Q) ∧ ((hA h7 (hR h7 813 a0) 0) = (hA h7 (hR h7 813 a0) (1 + a1)) → jWp (d + 1) mX11_same 40 [(0, jR a0), (1, jI a1), (2, jI 1), (3, jI 0)] [] h7 Q))))) ∧ (¬ (v7 = 0) → Q (.inl (some (jI 0))) h7)))) : jCall (d + 1) mX11_same [jR a0, jI a1] h Q := by
  refine jCall_of plX11 (Nat.le_of_ble_eq_true rfl) ?_
  show jWp (d + 1) mX11_same 0 [(0, jR a0), (1, jI a1)] [] h Q
  refine jw_ok (fun ok q => ?_)
  replace k := k ok (q _ (.tail _ (.head _)))
  refine wp_aload_n 0 dX11_same_0 rfl ?_
  refine wp_iconst dX11_same_1 ⟨by decide, by decide⟩ ?_
  have c1 := k.1
  replace k := k.2
  refine wp_putI (ci := 8) (j := 12) rfl (by decide) gX11_48 dX11_same_2 c1 (Or.inl rfl) rfl ?_
  refine wp_aload_n 0 dX11_same_5 rfl ?_
  refine wp_iload_n 1 dX11_same_6 rfl ?_
  refine wp_callV (ci := 8) (y' := mX11_isNoShelf) (st := []) [jI a1] rfl rfl rfl fX11_isNoShelf kX11_421 nX11_isNoShelf dX11_same_7 (Nat.le_of_ble_eq_true rfl) c1 ?_
  refine jCall.mono k (fun o h7 k => ?_)
  obtain ⟨v7, e, k⟩ := k
  subst e
  show jWp (d + 1) mX11_same 10 [(0, jR a0), (1, jI a1)] [jI v7] h7 Q
  refine wp_if_eq 15 dX11_same_10 rfl (fun q => ?_) (fun q => ?_)
  · replace k := k.1 q
    refine wp_aload_n 0 dX11_same_15 rfl ?_
    have c2 := k.1
    replace k := k.2
    refine wp_getR (ci := 8) (j := 13) rfl (by decide) gX11_51 dX11_same_16 c2 rfl ?_
    refine wp_iconst dX11_same_19 ⟨by decide, by decide⟩ ?_
    have c3 := k.1
    replace k := k.2
    have c4 := k.1
    replace k := k.2
    have c5 := k.1
    replace k := k.2
    refine wp_iaload dX11_same_20 c3 c4 c5 (fun q => ?_)
    have f6 := q
    replace k := k q
    refine wp_aload_n 0 dX11_same_21 rfl ?_
    refine wp_getR (ci := 8) (j := 13) rfl (by decide) gX11_51 dX11_same_22 c2 rfl ?_
    refine wp_iconst dX11_same_25 ⟨by decide, by decide⟩ ?_
    refine wp_iload_n 1 dX11_same_26 rfl ?_
    have c7 := k.1
    replace k := k.2
    refine wp_iadd dX11_same_27 c7 ?_
    have c8 := k.1
    replace k := k.2
    have c9 := k.1
    replace k := k.2
    refine wp_iaload dX11_same_28 c3 c8 c9 (fun q => ?_)
    have f10 := q
    replace k := k q
    refine wp_icmp_ne 36 dX11_same_29 rfl (fun q => ?_) (fun q => ?_)
    · replace k := k.1 q
      refine wp_iconst dX11_same_36 ⟨by decide, by decide⟩ ?_
      refine wp_istore_n [1, 2, 0] (ls' := [(0, jR a0), (1, jI a1), (2, jI 0)]) dX11_same_37 (by decide) rfl ?_
      refine wp_iconst dX11_same_38 ⟨by decide, by decide⟩ ?_
      refine wp_istore_n [1, 2, 3, 0] (ls' := [(0, jR a0), (1, jI a1), (2, jI 0), (3, jI 0)]) dX11_same_39 (by decide) rfl ?_
      exact k
    · replace k := k.2 q
      refine wp_iconst dX11_same_32 ⟨by decide, by decide⟩ ?_
      refine wp_goto 37 dX11_same_33 rfl ?_
      refine wp_istore_n [1, 2, 0] (ls' := [(0, jR a0), (1, jI a1), (2, jI 1)]) dX11_same_37 (by decide) rfl ?_
      refine wp_iconst dX11_same_38 ⟨by decide, by decide⟩ ?_
      refine wp_istore_n [1, 2, 3, 0] (ls' := [(0, jR a0), (1, jI a1), (2, jI 1), (3, jI 0)]) dX11_same_39 (by decide) rfl ?_
      exact k
  · replace k := k.2 q
    refine wp_iconst dX11_same_13 ⟨by decide, by decide⟩ ?_
    exact wp_zreturn dX11_same_14 rfl (by decide) (by decide) k
theorem bX11_same_40 {d : Nat} {h : jH} {Q : jO → jH → Prop} {a0 : Nat} {a1 : Int} {a2 : Int} {a3 : Int} (k : jOK h → j32 a1 → j32 a2 → j32 a3 → hK h a0 = 9 ∧ hK h (hR h 813 a0) = 10 ∧ 0 ≤ (0 : Int) ∧ 0 < hN h (hR h 813 a0) ∧ (j32 (hA h (hR h 813 a0) 0) → (((hA h (hR h 813 a0) 0) ≤ a3 → (0 ≤ a2 ∧ a2 ≤ 1) ∧ Q (.inl (some (jI a2))) h) ∧ (¬ ((hA h (hR h 813 a0) 0) ≤ a3) → ((a2 = 0 → (0 ≤ a2 ∧ a2 ≤ 1) ∧ Q (.inl (some (jI a2))) h) ∧ (¬ (a2 = 0) → j32 (1 + a1) ∧ j32 (20 * (1 + a1)) ∧ j32 ((20 * (1 + a1)) + a3) ∧ hK h (hR h 814 a0) = 10 ∧ 0 ≤ a3 ∧ a3 < hN h (hR h 814 a0) ∧ (j32 (hA h (hR h 814 a0) a3) → 0 ≤ ((20 * (1 + a1)) + a3) ∧ ((20 * (1 + a1)) + a3) < hN h (hR h 814 a0) ∧ (j32 (hA h (hR h 814 a0) ((20 * (1 + a1)) + a3)) → (((hA h (hR h 814 a0) a3) ≠ (hA h (hR h 814 a0) ((20 * (1 + a1)) + a3)) → jWp (d + 1) mX11_same 105 [(0, jR a0), (1, jI a1), (2, jI 0), (3, jI a3), (4, jI ((20 * (1 + a1)) + a3)), (5, jI 0)] [] h Q) ∧ ((hA h (hR h 814 a0) a3) = (hA h (hR h 814 a0) ((20 * (1 + a1)) + a3)) → hK h (hR h 815 a0) = 10 ∧ a3 < hN h (hR h 815 a0) ∧ (j32 (hA h (hR h 815 a0) a3) → ((20 * (1 + a1)) + a3) < hN h (hR h 815 a0) ∧ (j32 (hA h (hR h 815 a0) ((20 * (1 + a1)) + a3)) → (((hA h (hR h 815 a0) a3) ≠ (hA h (hR h 815 a0) ((20 * (1 + a1)) + a3)) → jWp (d + 1) mX11_same 105 [(0, jR a0), (1, jI a1), (2, jI 0), (3, jI a3), (4, jI ((20 * (1 + a1)) + a3)), (5, jI 0)] [] h Q) ∧ ((hA h (hR h 815 a0) a3) = (hA h (hR h 815 a0) ((20 * (1 + a1)) + a3)) → jWp (d + 1) mX11_same 105 [(0, jR a0), (1, jI a1), (2, jI 1), (3, jI a3), (4, jI ((20 * (1 + a1)) + a3)), (5, jI 0)] [] h Q)))))))))))))) : jWp (d + 1) mX11_same 40 [(0, jR a0), (1, jI a1), (2, jI a2), (3, jI a3)] [] h Q := by
  refine jw_ok (fun ok q => ?_)
  replace k := k ok (q _ (.tail _ (.head _))) (q _ (.tail _ (.tail _ (.head _)))) (q _ (.tail _ (.tail _ (.tail _ (.head _)))))
  refine wp_iload_n 3 dX11_same_40 rfl ?_
  refine wp_aload_n 0 dX11_same_41 rfl ?_
  have c1 := k.1
  replace k := k.2
  refine wp_getR (ci := 8) (j := 13) rfl (by decide) gX11_51 dX11_same_42 c1 rfl ?_
  refine wp_iconst dX11_same_45 ⟨by decide, by decide⟩ ?_
  have c2 := k.1
  replace k := k.2
  have c3 := k.1
  replace k := k.2
  have c4 := k.1
  replace k := k.2
  refine wp_iaload dX11_same_46 c2 c3 c4 (fun q => ?_)
  have f5 := q
  replace k := k q
  refine wp_icmp_ge 166 dX11_same_47 rfl (fun q => ?_) (fun q => ?_)
  · replace k := k.1 q
    refine wp_iload_n 2 dX11_same_166 rfl ?_
    have c6 := k.1
    replace k := k.2
    exact wp_zreturn dX11_same_167 rfl c6.1 c6.2 k
  · replace k := k.2 q
    refine wp_iload_n 2 dX11_same_50 rfl ?_
    refine wp_if_eq 166 dX11_same_51 rfl (fun q => ?_) (fun q => ?_)
    · replace k := k.1 q
      refine wp_iload_n 2 dX11_same_166 rfl ?_
      have c7 := k.1
      replace k := k.2
      exact wp_zreturn dX11_same_167 rfl c7.1 c7.2 k
    · replace k := k.2 q
      refine wp_bipush dX11_same_54 ⟨by decide, by decide⟩ ?_
      refine wp_iconst dX11_same_56 ⟨by decide, by decide⟩ ?_
      refine wp_iload_n 1 dX11_same_57 rfl ?_
      have c8 := k.1
      replace k := k.2
      refine wp_iadd dX11_same_58 c8 ?_
      have c9 := k.1
      replace k := k.2
      refine wp_imul dX11_same_59 c9 ?_
      refine wp_iload_n 3 dX11_same_60 rfl ?_
      have c10 := k.1
      replace k := k.2
      refine wp_iadd dX11_same_61 c10 ?_
      refine wp_istore [1, 2, 4, 0] (ls' := [(0, jR a0), (1, jI a1), (3, jI a3), (4, jI ((20 * (1 + a1)) + a3))]) dX11_same_62 (by decide) rfl ?_
      refine wp_aload_n 0 dX11_same_64 rfl ?_
      refine wp_getR (ci := 8) (j := 14) rfl (by decide) gX11_54 dX11_same_65 c1 rfl ?_
      refine wp_iload_n 2 dX11_same_68 rfl ?_
      have c11 := k.1
      replace k := k.2
      have c12 := k.1
      replace k := k.2
      have c13 := k.1
      replace k := k.2
      refine wp_iaload dX11_same_69 c11 c12 c13 (fun q => ?_)
      have f14 := q
      replace k := k q
      refine wp_aload_n 0 dX11_same_70 rfl ?_
      refine wp_getR (ci := 8) (j := 14) rfl (by decide) gX11_54 dX11_same_71 c1 rfl ?_
      refine wp_iload 3 dX11_same_74 rfl ?_
      have c15 := k.1
      replace k := k.2
      have c16 := k.1
      replace k := k.2
      refine wp_iaload dX11_same_76 c11 c15 c16 (fun q => ?_)
      have f17 := q
      replace k := k q
      refine wp_icmp_ne 100 dX11_same_77 rfl (fun q => ?_) (fun q => ?_)
      · replace k := k.1 q
        refine wp_iconst dX11_same_100 ⟨by decide, by decide⟩ ?_
        refine wp_istore_n [1, 2, 0, 3, 4] (ls' := [(0, jR a0), (1, jI a1), (2, jI 0), (3, jI a3), (4, jI ((20 * (1 + a1)) + a3))]) dX11_same_101 (by decide) rfl ?_
        refine wp_iconst dX11_same_102 ⟨by decide, by decide⟩ ?_
        refine wp_istore [1, 2, 3, 4, 5, 0] (ls' := [(0, jR a0), (1, jI a1), (2, jI 0), (3, jI a3), (4, jI ((20 * (1 + a1)) + a3)), (5, jI 0)]) dX11_same_103 (by decide) rfl ?_
        exact k
      · replace k := k.2 q
        refine wp_aload_n 0 dX11_same_80 rfl ?_
        refine wp_getR (ci := 8) (j := 15) rfl (by decide) gX11_57 dX11_same_81 c1 rfl ?_
        refine wp_iload_n 2 dX11_same_84 rfl ?_
        have c18 := k.1
        replace k := k.2
        have c19 := k.1
        replace k := k.2
        refine wp_iaload dX11_same_85 c18 c12 c19 (fun q => ?_)
        have f20 := q
        replace k := k q
        refine wp_aload_n 0 dX11_same_86 rfl ?_
        refine wp_getR (ci := 8) (j := 15) rfl (by decide) gX11_57 dX11_same_87 c1 rfl ?_
        refine wp_iload 3 dX11_same_90 rfl ?_
        have c21 := k.1
        replace k := k.2
        refine wp_iaload dX11_same_92 c18 c15 c21 (fun q => ?_)
        have f22 := q
        replace k := k q
        refine wp_icmp_ne 100 dX11_same_93 rfl (fun q => ?_) (fun q => ?_)
        · replace k := k.1 q
          refine wp_iconst dX11_same_100 ⟨by decide, by decide⟩ ?_
          refine wp_istore_n [1, 2, 0, 3, 4] (ls' := [(0, jR a0), (1, jI a1), (2, jI 0), (3, jI a3), (4, jI ((20 * (1 + a1)) + a3))]) dX11_same_101 (by decide) rfl ?_
          refine wp_iconst dX11_same_102 ⟨by decide, by decide⟩ ?_
          refine wp_istore [1, 2, 3, 4, 5, 0] (ls' := [(0, jR a0), (1, jI a1), (2, jI 0), (3, jI a3), (4, jI ((20 * (1 + a1)) + a3)), (5, jI 0)]) dX11_same_103 (by decide) rfl ?_
          exact k
        · replace k := k.2 q
          refine wp_iconst dX11_same_96 ⟨by decide, by decide⟩ ?_
          refine wp_goto 101 dX11_same_97 rfl ?_
          refine wp_istore_n [1, 2, 0, 3, 4] (ls' := [(0, jR a0), (1, jI a1), (2, jI 1), (3, jI a3), (4, jI ((20 * (1 + a1)) + a3))]) dX11_same_101 (by decide) rfl ?_
          refine wp_iconst dX11_same_102 ⟨by decide, by decide⟩ ?_
          refine wp_istore [1, 2, 3, 4, 5, 0] (ls' := [(0, jR a0), (1, jI a1), (2, jI 1), (3, jI a3), (4, jI ((20 * (1 + a1)) + a3)), (5, jI 0)]) dX11_same_103 (by decide) rfl ?_
          exact k
theorem bX11_same_105 {d : Nat} {h : jH} {Q : jO → jH → Prop} {a0 : Nat} {a1 : Int} {a2 : Int} {a3 : Int} {a4 : Int} {a5 : Int} (k : jOK h → j32 a1 → j32 a2 → j32 a3 → j32 a4 → j32 a5 → hK h a0 = 9 ∧ hK h (hR h 815 a0) = 10 ∧ 0 ≤ a3 ∧ a3 < hN h (hR h 815 a0) ∧ (j32 (hA h (hR h 815 a0) a3) → (((hA h (hR h 815 a0) a3) ≤ a5 → j32 (a3 + 1) ∧ jWp (d + 1) mX11_same 40 [(0, jR a0), (1, jI a1), (2, jI a2), (3, jI (a3 + 1))] [] h Q) ∧ (¬ ((hA h (hR h 815 a0) a3) ≤ a5) → ((a2 = 0 → j32 (a3 + 1) ∧ jWp (d + 1) mX11_same 40 [(0, jR a0), (1, jI a1), (2, jI a2), (3, jI (a3 + 1))] [] h Q) ∧ (¬ (a2 = 0) → j32 (90 * a3) ∧ j32 ((90 * a3) + a5) ∧ hK h (hR h 817 a0) = 11 ∧ 0 ≤ ((90 * a3) + a5) ∧ ((90 * a3) + a5) < hN h (hR h 817 a0) ∧ ((-128 ≤ hA h (hR h 817 a0) ((90 * a3) + a5) ∧ hA h (hR h 817 a0) ((90 * a3) + a5) ≤ 127) → j32 (90 * a4) ∧ j32 ((90 * a4) + a5) ∧ 0 ≤ ((90 * a4) + a5) ∧ ((90 * a4) + a5) < hN h (hR h 817 a0) ∧ ((-128 ≤ hA h (hR h 817 a0) ((90 * a4) + a5) ∧ hA h (hR h 817 a0) ((90 * a4) + a5) ≤ 127) → (((hA h (hR h 817 a0) ((90 * a3) + a5)) ≠ (hA h (hR h 817 a0) ((90 * a4) + a5)) → j32 (a5 + 1) ∧ jWp (d + 1) mX11_same 105 [(0, jR a0), (1, jI a1), (2, jI 0), (3, jI a3), (4, jI a4), (5, jI (a5 + 1))] [] h Q) ∧ ((hA h (hR h 817 a0) ((90 * a3) + a5)) = (hA h (hR h 817 a0) ((90 * a4) + a5)) → j32 (a5 + 1) ∧ jWp (d + 1) mX11_same 105 [(0, jR a0), (1, jI a1), (2, jI 1), (3, jI a3), (4, jI a4), (5, jI (a5 + 1))] [] h Q)))))))))) : jWp (d + 1) mX11_same 105 [(0, jR a0), (1, jI a1), (2, jI a2), (3, jI a3), (4, jI a4), (5, jI a5)] [] h Q := by
  refine jw_ok (fun ok q => ?_)
  replace k := k ok (q _ (.tail _ (.head _))) (q _ (.tail _ (.tail _ (.head _)))) (q _ (.tail _ (.tail _ (.tail _ (.head _))))) (q _ (.tail _ (.tail _ (.tail _ (.tail _ (.head _)))))) (q _ (.tail _ (.tail _ (.tail _ (.tail _ (.tail _ (.head _)))))))
  refine wp_iload 5 dX11_same_105 rfl ?_
  refine wp_aload_n 0 dX11_same_107 rfl ?_
  have c1 := k.1
  replace k := k.2
  refine wp_getR (ci := 8) (j := 15) rfl (by decide) gX11_57 dX11_same_108 c1 rfl ?_
  refine wp_iload_n 3 dX11_same_111 rfl ?_
  have c2 := k.1
  replace k := k.2
  have c3 := k.1
  replace k := k.2
  have c4 := k.1
  replace k := k.2
  refine wp_iaload dX11_same_112 c2 c3 c4 (fun q => ?_)
  have f5 := q
  replace k := k q
  refine wp_icmp_ge 160 dX11_same_113 rfl (fun q => ?_) (fun q => ?_)
  · replace k := k.1 q
    have c6 := k.1
    replace k := k.2
    refine wp_iinc 3 [1, 2, 3, 0] (ls' := [(0, jR a0), (1, jI a1), (2, jI a2), (3, jI (a3 + 1))]) dX11_same_160 rfl c6 ⟨by decide, by decide⟩ (by decide) rfl ?_
    refine wp_goto 40 dX11_same_163 rfl ?_
    exact k
  · replace k := k.2 q
    refine wp_iload_n 2 dX11_same_116 rfl ?_
    refine wp_if_eq 160 dX11_same_117 rfl (fun q => ?_) (fun q => ?_)
    · replace k := k.1 q
      have c7 := k.1
      replace k := k.2
      refine wp_iinc 3 [1, 2, 3, 0] (ls' := [(0, jR a0), (1, jI a1), (2, jI a2), (3, jI (a3 + 1))]) dX11_same_160 rfl c7 ⟨by decide, by decide⟩ (by decide) rfl ?_
      refine wp_goto 40 dX11_same_163 rfl ?_
      exact k
    · replace k := k.2 q
      refine wp_aload_n 0 dX11_same_120 rfl ?_
      refine wp_getR (ci := 8) (j := 17) rfl (by decide) gX11_63 dX11_same_121 c1 rfl ?_
      refine wp_bipush dX11_same_124 ⟨by decide, by decide⟩ ?_
      refine wp_iload_n 3 dX11_same_126 rfl ?_
      have c8 := k.1
      replace k := k.2
      refine wp_imul dX11_same_127 c8 ?_
      refine wp_iload 5 dX11_same_128 rfl ?_
      have c9 := k.1
      replace k := k.2
      refine wp_iadd dX11_same_130 c9 ?_
      have c10 := k.1
      replace k := k.2
      have c11 := k.1
      replace k := k.2
      have c12 := k.1
      replace k := k.2
      refine wp_baload dX11_same_131 c10 c11 c12 (fun q => ?_)
      have f13 := q
      replace k := k q
      refine wp_aload_n 0 dX11_same_132 rfl ?_
      refine wp_getR (ci := 8) (j := 17) rfl (by decide) gX11_63 dX11_same_133 c1 rfl ?_
      refine wp_bipush dX11_same_136 ⟨by decide, by decide⟩ ?_
      refine wp_iload 4 dX11_same_138 rfl ?_
      have c14 := k.1
      replace k := k.2
      refine wp_imul dX11_same_140 c14 ?_
      refine wp_iload 5 dX11_same_141 rfl ?_
      have c15 := k.1
      replace k := k.2
      refine wp_iadd dX11_same_143 c15 ?_
      have c16 := k.1
      replace k := k.2
      have c17 := k.1
      replace k := k.2
      refine wp_baload dX11_same_144 c10 c16 c17 (fun q => ?_)
      have f18 := q
      replace k := k q
      refine wp_icmp_ne 152 dX11_same_145 rfl (fun q => ?_) (fun q => ?_)
      · replace k := k.1 q
        refine wp_iconst dX11_same_152 ⟨by decide, by decide⟩ ?_
        refine wp_istore_n [1, 2, 0, 3, 4, 5] (ls' := [(0, jR a0), (1, jI a1), (2, jI 0), (3, jI a3), (4, jI a4), (5, jI a5)]) dX11_same_153 (by decide) rfl ?_
        have c19 := k.1
        replace k := k.2
        refine wp_iinc 5 [1, 2, 3, 4, 5, 0] (ls' := [(0, jR a0), (1, jI a1), (2, jI 0), (3, jI a3), (4, jI a4), (5, jI (a5 + 1))]) dX11_same_154 rfl c19 ⟨by decide, by decide⟩ (by decide) rfl ?_
        refine wp_goto 105 dX11_same_157 rfl ?_
        exact k
      · replace k := k.2 q
        refine wp_iconst dX11_same_148 ⟨by decide, by decide⟩ ?_
        refine wp_goto 153 dX11_same_149 rfl ?_
        refine wp_istore_n [1, 2, 0, 3, 4, 5] (ls' := [(0, jR a0), (1, jI a1), (2, jI 1), (3, jI a3), (4, jI a4), (5, jI a5)]) dX11_same_153 (by decide) rfl ?_
        have c20 := k.1
        replace k := k.2
        refine wp_iinc 5 [1, 2, 3, 4, 5, 0] (ls' := [(0, jR a0), (1, jI a1), (2, jI 1), (3, jI a3), (4, jI a4), (5, jI (a5 + 1))]) dX11_same_154 rfl c20 ⟨by decide, by decide⟩ (by decide) rfl ?_
        refine wp_goto 105 dX11_same_157 rfl ?_
        exact k
theorem bX11_join {d : Nat} {h : jH} {Q : jO → jH → Prop} {a0 : Nat} {a1 : Int} (k : jOK h → j32 a1 → hK h a0 = 9 ∧ jCall d mX11_isNoShelf [jR a0, jI a1] (sI h 812 a0 0) (fun o h7 => ∃ v7, o = .inl (some (jI v7)) ∧ ((v7 = 0 → hK h7 a0 = 9 ∧ hK h7 (hR h7 813 a0) = 10 ∧ 0 ≤ (0 : Int) ∧ 0 < hN h7 (hR h7 813 a0) ∧ (j32 (hA h7 (hR h7 813 a0) 0) → j32 (1 + a1) ∧ 0 ≤ (1 + a1) ∧ (1 + a1) < hN h7 (hR h7 813 a0) ∧ (j32 (hA h7 (hR h7 813 a0) (1 + a1)) → j32 ((hA h7 (hR h7 813 a0) 0) + (hA h7 (hR h7 813 a0) (1 + a1))) ∧ ((((hA h7 (hR h7 813 a0) 0) + (hA h7 (hR h7 813 a0) (1 + a1))) ≤ 20 → jCall d mX11_copyAll [jR a0, jI 0, jI 9] h7 (fun o h43 => ∃ v43, o = .inl (some (jI v43)) ∧ jWp (d + 1) mX11_join 49 [(0, jR a0), (1, jI a1), (2, jI ((hA h7 (hR h7 813 a0) 0) + (hA h7 (hR h7 813 a0) (1 + a1)))), (3, jI 0)] [] h43 Q)) ∧ (¬ (((hA h7 (hR h7 813 a0) 0) + (hA h7 (hR h7 813 a0) (1 + a1))) ≤ 20) → Q (.inl (some (jI (-1)))) h7))))) ∧ (¬ (v7 = 0) → Q (.inl (some (jI (-1)))) h7)))) : jCall (d + 1) mX11_join [jR a0, jI a1] h Q := by
  refine jCall_of plX11 (Nat.le_of_ble_eq_true rfl) ?_
  show jWp (d + 1) mX11_join 0 [(0, jR a0), (1, jI a1)] [] h Q
  refine jw_ok (fun ok q => ?_)
  replace k := k ok (q _ (.tail _ (.head _)))
  refine wp_aload_n 0 dX11_join_0 rfl ?_
  refine wp_iconst dX11_join_1 ⟨by decide, by decide⟩ ?_
  have c1 := k.1
  replace k := k.2
  refine wp_putI (ci := 8) (j := 12) rfl (by decide) gX11_48 dX11_join_2 c1 (Or.inl rfl) rfl ?_
  refine wp_aload_n 0 dX11_join_5 rfl ?_
  refine wp_iload_n 1 dX11_join_6 rfl ?_
  refine wp_callV (ci := 8) (y' := mX11_isNoShelf) (st := []) [jI a1] rfl rfl rfl fX11_isNoShelf kX11_421 nX11_isNoShelf dX11_join_7 (Nat.le_of_ble_eq_true rfl) c1 ?_
  refine jCall.mono k (fun o h7 k => ?_)
  obtain ⟨v7, e, k⟩ := k
  subst e
  show jWp (d + 1) mX11_join 10 [(0, jR a0), (1, jI a1)] [jI v7] h7 Q
  refine wp_if_eq 15 dX11_join_10 rfl (fun q => ?_) (fun q => ?_)
  · replace k := k.1 q
    refine wp_aload_n 0 dX11_join_15 rfl ?_
    have c2 := k.1
    replace k := k.2
    refine wp_getR (ci := 8) (j := 13) rfl (by decide) gX11_51 dX11_join_16 c2 rfl ?_
    refine wp_iconst dX11_join_19 ⟨by decide, by decide⟩ ?_
    have c3 := k.1
    replace k := k.2
    have c4 := k.1
    replace k := k.2
    have c5 := k.1
    replace k := k.2
    refine wp_iaload dX11_join_20 c3 c4 c5 (fun q => ?_)
    have f6 := q
    replace k := k q
    refine wp_aload_n 0 dX11_join_21 rfl ?_
    refine wp_getR (ci := 8) (j := 13) rfl (by decide) gX11_51 dX11_join_22 c2 rfl ?_
    refine wp_iconst dX11_join_25 ⟨by decide, by decide⟩ ?_
    refine wp_iload_n 1 dX11_join_26 rfl ?_
    have c7 := k.1
    replace k := k.2
    refine wp_iadd dX11_join_27 c7 ?_
    have c8 := k.1
    replace k := k.2
    have c9 := k.1
    replace k := k.2
    refine wp_iaload dX11_join_28 c3 c8 c9 (fun q => ?_)
    have f10 := q
    replace k := k q
    have c11 := k.1
    replace k := k.2
    refine wp_iadd dX11_join_29 c11 ?_
    refine wp_istore_n [1, 2, 0] (ls' := [(0, jR a0), (1, jI a1), (2, jI ((hA h7 (hR h7 813 a0) 0) + (hA h7 (hR h7 813 a0) (1 + a1))))]) dX11_join_30 (by decide) rfl ?_
    refine wp_iload_n 2 dX11_join_31 rfl ?_
    refine wp_bipush dX11_join_32 ⟨by decide, by decide⟩ ?_
    refine wp_icmp_le 39 dX11_join_34 rfl (fun q => ?_) (fun q => ?_)
    · replace k := k.1 q
      refine wp_aload_n 0 dX11_join_39 rfl ?_
      refine wp_iconst dX11_join_40 ⟨by decide, by decide⟩ ?_
      refine wp_bipush dX11_join_41 ⟨by decide, by decide⟩ ?_
      refine wp_callV (ci := 8) (y' := mX11_copyAll) (st := []) [jI 0, jI 9] rfl rfl rfl fX11_copyAll kX11_380 nX11_copyAll dX11_join_43 (Nat.le_of_ble_eq_true rfl) c2 ?_
      refine jCall.mono k (fun o h43 k => ?_)
      obtain ⟨v43, e, k⟩ := k
      subst e
      show jWp (d + 1) mX11_join 46 [(0, jR a0), (1, jI a1), (2, jI ((hA h7 (hR h7 813 a0) 0) + (hA h7 (hR h7 813 a0) (1 + a1))))] [jI v43] h43 Q
      refine wp_pop dX11_join_46 rfl ?_
      refine wp_iconst dX11_join_47 ⟨by decide, by decide⟩ ?_
      refine wp_istore_n [1, 2, 3, 0] (ls' := [(0, jR a0), (1, jI a1), (2, jI ((hA h7 (hR h7 813 a0) 0) + (hA h7 (hR h7 813 a0) (1 + a1)))), (3, jI 0)]) dX11_join_48 (by decide) rfl ?_
      exact k
    · replace k := k.2 q
      refine wp_iconst dX11_join_37 ⟨by decide, by decide⟩ ?_
      exact wp_iret dX11_join_38 rfl k
  · replace k := k.2 q
    refine wp_iconst dX11_join_13 ⟨by decide, by decide⟩ ?_
    exact wp_iret dX11_join_14 rfl k
theorem bX11_join_49 {d : Nat} {h : jH} {Q : jO → jH → Prop} {a0 : Nat} {a1 : Int} {a2 : Int} {a3 : Int} (k : jOK h → j32 a1 → j32 a2 → j32 a3 → hK h a0 = 9 ∧ j32 (1 + a1) ∧ hK h (hR h 813 a0) = 10 ∧ 0 ≤ (1 + a1) ∧ (1 + a1) < hN h (hR h 813 a0) ∧ (j32 (hA h (hR h 813 a0) (1 + a1)) → (((hA h (hR h 813 a0) (1 + a1)) ≤ a3 → 0 ≤ (9 : Int) ∧ 9 < hN h (hR h 813 a0) ∧ jWp (d + 1) mX11_join 95 [(0, jR a0), (2, jI a2), (3, jI 0)] [] (sA h (hR h 813 a0) 9 a2) Q) ∧ (¬ ((hA h (hR h 813 a0) (1 + a1)) ≤ a3) → 0 ≤ (0 : Int) ∧ 0 < hN h (hR h 813 a0) ∧ (j32 (hA h (hR h 813 a0) 0) → j32 ((hA h (hR h 813 a0) 0) + a3) ∧ jCall d mX11_copy [jR a0, jI (1 + a1), jI a3, jI 9, jI ((hA h (hR h 813 a0) 0) + a3)] h (fun o h76 => o = .inl none ∧ j32 (a3 + 1) ∧ jWp (d + 1) mX11_join 49 [(0, jR a0), (1, jI a1), (2, jI a2), (3, jI (a3 + 1))] [] h76 Q)))))) : jWp (d + 1) mX11_join 49 [(0, jR a0), (1, jI a1), (2, jI a2), (3, jI a3)] [] h Q := by
  refine jw_ok (fun ok q => ?_)
  replace k := k ok (q _ (.tail _ (.head _))) (q _ (.tail _ (.tail _ (.head _)))) (q _ (.tail _ (.tail _ (.tail _ (.head _)))))
  refine wp_iload_n 3 dX11_join_49 rfl ?_
  refine wp_aload_n 0 dX11_join_50 rfl ?_
  have c1 := k.1
  replace k := k.2
  refine wp_getR (ci := 8) (j := 13) rfl (by decide) gX11_51 dX11_join_51 c1 rfl ?_
  refine wp_iconst dX11_join_54 ⟨by decide, by decide⟩ ?_
  refine wp_iload_n 1 dX11_join_55 rfl ?_
  have c2 := k.1
  replace k := k.2
  refine wp_iadd dX11_join_56 c2 ?_
  have c3 := k.1
  replace k := k.2
  have c4 := k.1
  replace k := k.2
  have c5 := k.1
  replace k := k.2
  refine wp_iaload dX11_join_57 c3 c4 c5 (fun q => ?_)
  have f6 := q
  replace k := k q
  refine wp_icmp_ge 85 dX11_join_58 rfl (fun q => ?_) (fun q => ?_)
  · replace k := k.1 q
    refine wp_aload_n 0 dX11_join_85 rfl ?_
    refine wp_getR (ci := 8) (j := 13) rfl (by decide) gX11_51 dX11_join_86 c1 rfl ?_
    refine wp_bipush dX11_join_89 ⟨by decide, by decide⟩ ?_
    refine wp_iload_n 2 dX11_join_91 rfl ?_
    have c7 := k.1
    replace k := k.2
    have c8 := k.1
    replace k := k.2
    refine wp_iastore dX11_join_92 c3 c7 c8 ?_
    refine wp_iconst dX11_join_93 ⟨by decide, by decide⟩ ?_
    refine wp_istore_n [1, 3, 0] (ls' := [(0, jR a0), (2, jI a2), (3, jI 0)]) dX11_join_94 (by decide) rfl ?_
    exact k
  · replace k := k.2 q
    refine wp_aload_n 0 dX11_join_61 rfl ?_
    refine wp_iconst dX11_join_62 ⟨by decide, by decide⟩ ?_
    refine wp_iload_n 1 dX11_join_63 rfl ?_
    refine wp_iadd dX11_join_64 c2 ?_
    refine wp_iload_n 3 dX11_join_65 rfl ?_
    refine wp_bipush dX11_join_66 ⟨by decide, by decide⟩ ?_
    refine wp_aload_n 0 dX11_join_68 rfl ?_
    refine wp_getR (ci := 8) (j := 13) rfl (by decide) gX11_51 dX11_join_69 c1 rfl ?_
    refine wp_iconst dX11_join_72 ⟨by decide, by decide⟩ ?_
    have c9 := k.1
    replace k := k.2
    have c10 := k.1
    replace k := k.2
    refine wp_iaload dX11_join_73 c3 c9 c10 (fun q => ?_)
    have f11 := q
    replace k := k q
    refine wp_iload_n 3 dX11_join_74 rfl ?_
    have c12 := k.1
    replace k := k.2
    refine wp_iadd dX11_join_75 c12 ?_
    refine wp_callV (ci := 8) (y' := mX11_copy) (st := []) [jI (1 + a1), jI a3, jI 9, jI ((hA h (hR h 813 a0) 0) + a3)] rfl rfl rfl fX11_copy kX11_293 nX11_copy dX11_join_76 (Nat.le_of_ble_eq_true rfl) c1 ?_
    refine jCall.mono k (fun o h76 k => ?_)
    obtain ⟨e, k⟩ := k
    subst e
    show jWp (d + 1) mX11_join 79 [(0, jR a0), (1, jI a1), (2, jI a2), (3, jI a3)] [] h76 Q
    have c13 := k.1
    replace k := k.2
    refine wp_iinc 3 [1, 2, 3, 0] (ls' := [(0, jR a0), (1, jI a1), (2, jI a2), (3, jI (a3 + 1))]) dX11_join_79 rfl c13 ⟨by decide, by decide⟩ (by decide) rfl ?_
    refine wp_goto 49 dX11_join_82 rfl ?_
    exact k
theorem bX11_join_95 {d : Nat} {h : jH} {Q : jO → jH → Prop} {a0 : Nat} {a2 : Int} {a3 : Int} (k : jOK h → j32 a2 → j32 a3 → ((a2 ≤ a3 → hK h a0 = 9 ∧ jCall d mX11_copyAll [jR a0, jI 9, jI 0] h (fun o h141 => ∃ v141, o = .inl (some (jI v141)) ∧ Q (.inl (some (jI v141))) h141)) ∧ (¬ (a2 ≤ a3) → hK h a0 = 9 ∧ jCall d mX11_isTwice [jR a0, jI 9, jI a3] h (fun o h104 => ∃ v104, o = .inl (some (jI v104)) ∧ ((v104 ≠ 0 → Q (.inl (some (jI (-1)))) h104) ∧ (v104 = 0 → hK h104 a0 = 9 ∧ j32 (180 + a3) ∧ hK h104 (hR h104 814 a0) = 10 ∧ 0 ≤ (180 + a3) ∧ (180 + a3) < hN h104 (hR h104 814 a0) ∧ (j32 (hA h104 (hR h104 814 a0) (180 + a3)) → jCall d mX11_wants [jR a0, jI 9, jI (hA h104 (hR h104 814 a0) (180 + a3))] h104 (fun o h123 => ∃ v123, o = .inl (some (jI v123)) ∧ ((v123 ≠ 0 → j32 (a3 + 1) ∧ jWp (d + 1) mX11_join 95 [(0, jR a0), (2, jI a2), (3, jI (a3 + 1))] [] h123 Q) ∧ (v123 = 0 → Q (.inl (some (jI (-1)))) h123)))))))))) : jWp (d + 1) mX11_join 95 [(0, jR a0), (2, jI a2), (3, jI a3)] [] h Q := by
  refine jw_ok (fun ok q => ?_)
  replace k := k ok (q _ (.tail _ (.head _))) (q _ (.tail _ (.tail _ (.head _))))
  refine wp_iload_n 2 dX11_join_95 rfl ?_
  refine wp_iload_n 1 dX11_join_96 rfl ?_
  refine wp_icmp_ge 137 dX11_join_97 rfl (fun q => ?_) (fun q => ?_)
  · replace k := k.1 q
    refine wp_aload_n 0 dX11_join_137 rfl ?_
    refine wp_bipush dX11_join_138 ⟨by decide, by decide⟩ ?_
    refine wp_iconst dX11_join_140 ⟨by decide, by decide⟩ ?_
    have c1 := k.1
    replace k := k.2
    refine wp_callV (ci := 8) (y' := mX11_copyAll) (st := []) [jI 9, jI 0] rfl rfl rfl fX11_copyAll kX11_380 nX11_copyAll dX11_join_141 (Nat.le_of_ble_eq_true rfl) c1 ?_
    refine jCall.mono k (fun o h141 k => ?_)
    obtain ⟨v141, e, k⟩ := k
    subst e
    show jWp (d + 1) mX11_join 144 [(0, jR a0), (2, jI a2), (3, jI a3)] [jI v141] h141 Q
    exact wp_iret dX11_join_144 rfl k
  · replace k := k.2 q
    refine wp_aload_n 0 dX11_join_100 rfl ?_
    refine wp_bipush dX11_join_101 ⟨by decide, by decide⟩ ?_
    refine wp_iload_n 2 dX11_join_103 rfl ?_
    have c2 := k.1
    replace k := k.2
    refine wp_callV (ci := 8) (y' := mX11_isTwice) (st := []) [jI 9, jI a3] rfl rfl rfl fX11_isTwice kX11_367 nX11_isTwice dX11_join_104 (Nat.le_of_ble_eq_true rfl) c2 ?_
    refine jCall.mono k (fun o h104 k => ?_)
    obtain ⟨v104, e, k⟩ := k
    subst e
    show jWp (d + 1) mX11_join 107 [(0, jR a0), (2, jI a2), (3, jI a3)] [jI v104] h104 Q
    refine wp_if_ne 129 dX11_join_107 rfl (fun q => ?_) (fun q => ?_)
    · replace k := k.1 q
      refine wp_iconst dX11_join_129 ⟨by decide, by decide⟩ ?_
      exact wp_iret dX11_join_130 rfl k
    · replace k := k.2 q
      refine wp_aload_n 0 dX11_join_110 rfl ?_
      refine wp_bipush dX11_join_111 ⟨by decide, by decide⟩ ?_
      refine wp_aload_n 0 dX11_join_113 rfl ?_
      have c3 := k.1
      replace k := k.2
      refine wp_getR (ci := 8) (j := 14) rfl (by decide) gX11_54 dX11_join_114 c3 rfl ?_
      refine wp_sipush dX11_join_117 ⟨by decide, by decide⟩ ?_
      refine wp_iload_n 2 dX11_join_120 rfl ?_
      have c4 := k.1
      replace k := k.2
      refine wp_iadd dX11_join_121 c4 ?_
      have c5 := k.1
      replace k := k.2
      have c6 := k.1
      replace k := k.2
      have c7 := k.1
      replace k := k.2
      refine wp_iaload dX11_join_122 c5 c6 c7 (fun q => ?_)
      have f8 := q
      replace k := k q
      refine wp_callV (ci := 8) (y' := mX11_wants) (st := []) [jI 9, jI (hA h104 (hR h104 814 a0) (180 + a3))] rfl rfl rfl fX11_wants kX11_370 nX11_wants dX11_join_123 (Nat.le_of_ble_eq_true rfl) c3 ?_
      refine jCall.mono k (fun o h123 k => ?_)
      obtain ⟨v123, e, k⟩ := k
      subst e
      show jWp (d + 1) mX11_join 126 [(0, jR a0), (2, jI a2), (3, jI a3)] [jI v123] h123 Q
      refine wp_if_ne 131 dX11_join_126 rfl (fun q => ?_) (fun q => ?_)
      · replace k := k.1 q
        have c9 := k.1
        replace k := k.2
        refine wp_iinc 2 [1, 2, 0] (ls' := [(0, jR a0), (2, jI a2), (3, jI (a3 + 1))]) dX11_join_131 rfl c9 ⟨by decide, by decide⟩ (by decide) rfl ?_
        refine wp_goto 95 dX11_join_134 rfl ?_
        exact k
      · replace k := k.2 q
        refine wp_iconst dX11_join_129 ⟨by decide, by decide⟩ ?_
        exact wp_iret dX11_join_130 rfl k
theorem bX11_check {d : Nat} {h : jH} {Q : jO → jH → Prop} {a0 : Nat} (k : jOK h → hK h a0 = 9 ∧ (j32 (hI (sI h 812 a0 0) 819 a0) → (((hI (sI h 812 a0 0) 819 a0) = 0 → Q (.inl (some (jI (-1)))) (sI (sI h 812 a0 0) 819 a0 0)) ∧ (¬ ((hI (sI h 812 a0 0) 819 a0) = 0) → (((hI (sI h 812 a0 0) 819 a0) ≤ 30 → jWp (d + 1) mX11_check 29 [(0, jR a0), (1, jI (hI (sI h 812 a0 0) 819 a0)), (2, jI 0)] [] (sI (sI h 812 a0 0) 819 a0 0) Q) ∧ (¬ ((hI (sI h 812 a0 0) 819 a0) ≤ 30) → Q (.inl (some (jI (-1)))) (sI (sI h 812 a0 0) 819 a0 0))))))) : jCall (d + 1) mX11_check [jR a0] h Q := by
  refine jCall_of plX11 (Nat.le_of_ble_eq_true rfl) ?_
  show jWp (d + 1) mX11_check 0 [(0, jR a0)] [] h Q
  refine jw_ok (fun ok q => ?_)
  replace k := k ok 
  refine wp_aload_n 0 dX11_check_0 rfl ?_
  refine wp_iconst dX11_check_1 ⟨by decide, by decide⟩ ?_
  have c1 := k.1
  replace k := k.2
  refine wp_putI (ci := 8) (j := 12) rfl (by decide) gX11_48 dX11_check_2 c1 (Or.inl rfl) rfl ?_
  refine wp_aload_n 0 dX11_check_5 rfl ?_
  refine wp_getI (ci := 8) (j := 19) rfl (by decide) gX11_70 dX11_check_6 c1 rfl (fun q => ?_)
  have f2 := q
  replace k := k q
  refine wp_istore_n [1, 0] (ls' := [(0, jR a0), (1, jI (hI (sI h 812 a0 0) 819 a0))]) dX11_check_9 (by decide) rfl ?_
  refine wp_aload_n 0 dX11_check_10 rfl ?_
  refine wp_iconst dX11_check_11 ⟨by decide, by decide⟩ ?_
  refine wp_putI (ci := 8) (j := 19) rfl (by decide) gX11_70 dX11_check_12 c1 (Or.inl rfl) rfl ?_
  refine wp_iload_n 1 dX11_check_15 rfl ?_
  refine wp_if_eq 25 dX11_check_16 rfl (fun q => ?_) (fun q => ?_)
  · replace k := k.1 q
    refine wp_iconst dX11_check_25 ⟨by decide, by decide⟩ ?_
    exact wp_iret dX11_check_26 rfl k
  · replace k := k.2 q
    refine wp_iload_n 1 dX11_check_19 rfl ?_
    refine wp_bipush dX11_check_20 ⟨by decide, by decide⟩ ?_
    refine wp_icmp_le 27 dX11_check_22 rfl (fun q => ?_) (fun q => ?_)
    · replace k := k.1 q
      refine wp_iconst dX11_check_27 ⟨by decide, by decide⟩ ?_
      refine wp_istore_n [1, 2, 0] (ls' := [(0, jR a0), (1, jI (hI (sI h 812 a0 0) 819 a0)), (2, jI 0)]) dX11_check_28 (by decide) rfl ?_
      exact k
    · replace k := k.2 q
      refine wp_iconst dX11_check_25 ⟨by decide, by decide⟩ ?_
      exact wp_iret dX11_check_26 rfl k
theorem bX11_check_29 {d : Nat} {h : jH} {Q : jO → jH → Prop} {a0 : Nat} {a1 : Int} {a2 : Int} (k : jOK h → j32 a1 → j32 a2 → ((a1 ≤ a2 → hK h a0 = 9 ∧ jCall d mX11_checkOf [jR (hR h 818 a0), jI 0, jI a1] h (fun o h60 => ∃ v60, o = .inl (some (jI v60)) ∧ Q (.inl (some (jI v60))) h60)) ∧ (¬ (a1 ≤ a2) → hK h a0 = 9 ∧ hK h (hR h 818 a0) = 11 ∧ 0 ≤ a2 ∧ a2 < hN h (hR h 818 a0) ∧ ((-128 ≤ hA h (hR h 818 a0) a2 ∧ hA h (hR h 818 a0) a2 ≤ 127) → jCall d mX11_isDigit [jI (hA h (hR h 818 a0) a2)] h (fun o h40 => ∃ v40, o = .inl (some (jI v40)) ∧ ((v40 ≠ 0 → j32 (a2 + 1) ∧ jWp (d + 1) mX11_check 29 [(0, jR a0), (1, jI a1), (2, jI (a2 + 1))] [] h40 Q) ∧ (v40 = 0 → Q (.inl (some (jI (-1)))) h40))))))) : jWp (d + 1) mX11_check 29 [(0, jR a0), (1, jI a1), (2, jI a2)] [] h Q := by
  refine jw_ok (fun ok q => ?_)
  replace k := k ok (q _ (.tail _ (.head _))) (q _ (.tail _ (.tail _ (.head _))))
  refine wp_iload_n 2 dX11_check_29 rfl ?_
  refine wp_iload_n 1 dX11_check_30 rfl ?_
  refine wp_icmp_ge 54 dX11_check_31 rfl (fun q => ?_) (fun q => ?_)
  · replace k := k.1 q
    refine wp_aload_n 0 dX11_check_54 rfl ?_
    have c1 := k.1
    replace k := k.2
    refine wp_getR (ci := 8) (j := 18) rfl (by decide) gX11_67 dX11_check_55 c1 rfl ?_
    refine wp_iconst dX11_check_58 ⟨by decide, by decide⟩ ?_
    refine wp_iload_n 1 dX11_check_59 rfl ?_
    refine wp_callS (y' := mX11_checkOf) (st := []) [jR (hR h 818 a0), jI 0, jI a1] rfl fX11_checkOf kX11_300 nX11_checkOf dX11_check_60 (Nat.le_of_ble_eq_true rfl) ?_
    refine jCall.mono k (fun o h60 k => ?_)
    obtain ⟨v60, e, k⟩ := k
    subst e
    show jWp (d + 1) mX11_check 63 [(0, jR a0), (1, jI a1), (2, jI a2)] [jI v60] h60 Q
    exact wp_iret dX11_check_63 rfl k
  · replace k := k.2 q
    refine wp_aload_n 0 dX11_check_34 rfl ?_
    have c2 := k.1
    replace k := k.2
    refine wp_getR (ci := 8) (j := 18) rfl (by decide) gX11_67 dX11_check_35 c2 rfl ?_
    refine wp_iload_n 2 dX11_check_38 rfl ?_
    have c3 := k.1
    replace k := k.2
    have c4 := k.1
    replace k := k.2
    have c5 := k.1
    replace k := k.2
    refine wp_baload dX11_check_39 c3 c4 c5 (fun q => ?_)
    have f6 := q
    replace k := k q
    refine wp_callS (y' := mX11_isDigit) (st := []) [jI (hA h (hR h 818 a0) a2)] rfl fX11_isDigit kX11_332 nX11_isDigit dX11_check_40 (Nat.le_of_ble_eq_true rfl) ?_
    refine jCall.mono k (fun o h40 k => ?_)
    obtain ⟨v40, e, k⟩ := k
    subst e
    show jWp (d + 1) mX11_check 43 [(0, jR a0), (1, jI a1), (2, jI a2)] [jI v40] h40 Q
    refine wp_if_ne 48 dX11_check_43 rfl (fun q => ?_) (fun q => ?_)
    · replace k := k.1 q
      have c7 := k.1
      replace k := k.2
      refine wp_iinc 2 [1, 2, 0] (ls' := [(0, jR a0), (1, jI a1), (2, jI (a2 + 1))]) dX11_check_48 rfl c7 ⟨by decide, by decide⟩ (by decide) rfl ?_
      refine wp_goto 29 dX11_check_51 rfl ?_
      exact k
    · replace k := k.2 q
      refine wp_iconst dX11_check_46 ⟨by decide, by decide⟩ ?_
      exact wp_iret dX11_check_47 rfl k
theorem bX11_shaped {d : Nat} {h : jH} {Q : jO → jH → Prop} {a0 : Int} {a1 : Int} (k : jOK h → j32 a0 → j32 a1 → jWp d mX11_shaped 4 [(0, jI a0), (1, jI a1), (2, jI 1), (3, jI 1)] [] h Q) : jCall d mX11_shaped [jI a0, jI a1] h Q := by
  refine jCall_of plX11 (Nat.le_of_ble_eq_true rfl) ?_
  show jWp d mX11_shaped 0 [(0, jI a0), (1, jI a1)] [] h Q
  refine jw_ok (fun ok q => ?_)
  replace k := k ok (q _ (.head _)) (q _ (.tail _ (.head _)))
  refine wp_iconst dX11_shaped_0 ⟨by decide, by decide⟩ ?_
  refine wp_istore_n [1, 2, 0] (ls' := [(0, jI a0), (1, jI a1), (2, jI 1)]) dX11_shaped_1 (by decide) rfl ?_
  refine wp_iconst dX11_shaped_2 ⟨by decide, by decide⟩ ?_
  refine wp_istore_n [1, 2, 3, 0] (ls' := [(0, jI a0), (1, jI a1), (2, jI 1), (3, jI 1)]) dX11_shaped_3 (by decide) rfl ?_
  exact k
theorem bX11_shaped_4 {d : Nat} {h : jH} {Q : jO → jH → Prop} {a0 : Int} {a1 : Int} {a2 : Int} {a3 : Int} (k : jOK h → j32 a0 → j32 a1 → j32 a2 → j32 a3 → ((a1 ≤ a3 → jWp d mX11_shaped 25 [(0, jI a0), (1, jI a1), (2, jI a2), (3, jI 0), (4, jI 0)] [] h Q) ∧ (¬ (a1 ≤ a3) → j32 (a2 * 10) ∧ j32 (a3 + 1) ∧ jWp d mX11_shaped 4 [(0, jI a0), (1, jI a1), (2, jI (a2 * 10)), (3, jI (a3 + 1))] [] h Q))) : jWp d mX11_shaped 4 [(0, jI a0), (1, jI a1), (2, jI a2), (3, jI a3)] [] h Q := by
  refine jw_ok (fun ok q => ?_)
  replace k := k ok (q _ (.head _)) (q _ (.tail _ (.head _))) (q _ (.tail _ (.tail _ (.head _)))) (q _ (.tail _ (.tail _ (.tail _ (.head _)))))
  refine wp_iload_n 3 dX11_shaped_4 rfl ?_
  refine wp_iload_n 1 dX11_shaped_5 rfl ?_
  refine wp_icmp_ge 20 dX11_shaped_6 rfl (fun q => ?_) (fun q => ?_)
  · replace k := k.1 q
    refine wp_iconst dX11_shaped_20 ⟨by decide, by decide⟩ ?_
    refine wp_istore_n [1, 2, 3, 0] (ls' := [(0, jI a0), (1, jI a1), (2, jI a2), (3, jI 0)]) dX11_shaped_21 (by decide) rfl ?_
    refine wp_iconst dX11_shaped_22 ⟨by decide, by decide⟩ ?_
    refine wp_istore [1, 2, 3, 4, 0] (ls' := [(0, jI a0), (1, jI a1), (2, jI a2), (3, jI 0), (4, jI 0)]) dX11_shaped_23 (by decide) rfl ?_
    exact k
  · replace k := k.2 q
    refine wp_iload_n 2 dX11_shaped_9 rfl ?_
    refine wp_bipush dX11_shaped_10 ⟨by decide, by decide⟩ ?_
    have c1 := k.1
    replace k := k.2
    refine wp_imul dX11_shaped_12 c1 ?_
    refine wp_istore_n [1, 2, 0, 3] (ls' := [(0, jI a0), (1, jI a1), (2, jI (a2 * 10)), (3, jI a3)]) dX11_shaped_13 (by decide) rfl ?_
    have c2 := k.1
    replace k := k.2
    refine wp_iinc 3 [1, 2, 3, 0] (ls' := [(0, jI a0), (1, jI a1), (2, jI (a2 * 10)), (3, jI (a3 + 1))]) dX11_shaped_14 rfl c2 ⟨by decide, by decide⟩ (by decide) rfl ?_
    refine wp_goto 4 dX11_shaped_17 rfl ?_
    exact k
theorem bX11_shaped_25 {d : Nat} {h : jH} {Q : jO → jH → Prop} {a0 : Int} {a1 : Int} {a2 : Int} {a3 : Int} {a4 : Int} (k : jOK h → j32 a0 → j32 a1 → j32 a2 → j32 a3 → j32 a4 → ((a1 ≤ a4 → Q (.inl (some (jI a3))) h) ∧ (¬ (a1 ≤ a4) → 0 ≤ a0 ∧ 0 < a2 ∧ 0 ≤ (a0 / a2) ∧ jWp d mX11_shaped 42 [(0, jI a0), (1, jI a1), (2, jI a2), (3, jI a3), (4, jI a4), (5, jI ((a0 / a2) % 10)), (6, jI 0)] [] h Q))) : jWp d mX11_shaped 25 [(0, jI a0), (1, jI a1), (2, jI a2), (3, jI a3), (4, jI a4)] [] h Q := by
  refine jw_ok (fun ok q => ?_)
  replace k := k ok (q _ (.head _)) (q _ (.tail _ (.head _))) (q _ (.tail _ (.tail _ (.head _)))) (q _ (.tail _ (.tail _ (.tail _ (.head _))))) (q _ (.tail _ (.tail _ (.tail _ (.tail _ (.head _))))))
  refine wp_iload 4 dX11_shaped_25 rfl ?_
  refine wp_iload_n 1 dX11_shaped_27 rfl ?_
  refine wp_icmp_ge 83 dX11_shaped_28 rfl (fun q => ?_) (fun q => ?_)
  · replace k := k.1 q
    refine wp_iload_n 3 dX11_shaped_83 rfl ?_
    exact wp_iret dX11_shaped_84 rfl k
  · replace k := k.2 q
    refine wp_iload_n 0 dX11_shaped_31 rfl ?_
    refine wp_iload_n 2 dX11_shaped_32 rfl ?_
    have c1 := k.1
    replace k := k.2
    have c2 := k.1
    replace k := k.2
    refine wp_idiv dX11_shaped_33 c1 c2 ?_
    refine wp_bipush dX11_shaped_34 ⟨by decide, by decide⟩ ?_
    have c3 := k.1
    replace k := k.2
    refine wp_irem dX11_shaped_36 c3 (by decide) ?_
    refine wp_istore [1, 2, 3, 4, 5, 0] (ls' := [(0, jI a0), (1, jI a1), (2, jI a2), (3, jI a3), (4, jI a4), (5, jI ((a0 / a2) % 10))]) dX11_shaped_37 (by decide) rfl ?_
    refine wp_iconst dX11_shaped_39 ⟨by decide, by decide⟩ ?_
    refine wp_istore [1, 2, 3, 4, 5, 6, 0] (ls' := [(0, jI a0), (1, jI a1), (2, jI a2), (3, jI a3), (4, jI a4), (5, jI ((a0 / a2) % 10)), (6, jI 0)]) dX11_shaped_40 (by decide) rfl ?_
    exact k
theorem bX11_shaped_42 {d : Nat} {h : jH} {Q : jO → jH → Prop} {a0 : Int} {a1 : Int} {a2 : Int} {a3 : Int} {a4 : Int} {a5 : Int} {a6 : Int} (k : jOK h → j32 a0 → j32 a1 → j32 a2 → j32 a3 → j32 a4 → j32 a5 → j32 a6 → ((a5 ≤ a6 → 0 ≤ a2 ∧ j32 (a4 + 1) ∧ jWp d mX11_shaped 25 [(0, jI a0), (1, jI a1), (2, jI (a2 / 10)), (3, jI a3), (4, jI (a4 + 1))] [] h Q) ∧ (¬ (a5 ≤ a6) → j32 (2 * a3) ∧ 0 ≤ a4 ∧ (((a4 % 2) ≠ 0 → j32 ((2 * a3) + 0) ∧ j32 (a6 + 1) ∧ jWp d mX11_shaped 42 [(0, jI a0), (1, jI a1), (2, jI a2), (3, jI ((2 * a3) + 0)), (4, jI a4), (5, jI a5), (6, jI (a6 + 1))] [] h Q) ∧ ((a4 % 2) = 0 → j32 ((2 * a3) + 1) ∧ j32 (a6 + 1) ∧ jWp d mX11_shaped 42 [(0, jI a0), (1, jI a1), (2, jI a2), (3, jI ((2 * a3) + 1)), (4, jI a4), (5, jI a5), (6, jI (a6 + 1))] [] h Q))))) : jWp d mX11_shaped 42 [(0, jI a0), (1, jI a1), (2, jI a2), (3, jI a3), (4, jI a4), (5, jI a5), (6, jI a6)] [] h Q := by
  refine jw_ok (fun ok q => ?_)
  replace k := k ok (q _ (.head _)) (q _ (.tail _ (.head _))) (q _ (.tail _ (.tail _ (.head _)))) (q _ (.tail _ (.tail _ (.tail _ (.head _))))) (q _ (.tail _ (.tail _ (.tail _ (.tail _ (.head _)))))) (q _ (.tail _ (.tail _ (.tail _ (.tail _ (.tail _ (.head _))))))) (q _ (.tail _ (.tail _ (.tail _ (.tail _ (.tail _ (.tail _ (.head _))))))))
  refine wp_iload 6 dX11_shaped_42 rfl ?_
  refine wp_iload 5 dX11_shaped_44 rfl ?_
  refine wp_icmp_ge 72 dX11_shaped_46 rfl (fun q => ?_) (fun q => ?_)
  · replace k := k.1 q
    refine wp_iload_n 2 dX11_shaped_72 rfl ?_
    refine wp_bipush dX11_shaped_73 ⟨by decide, by decide⟩ ?_
    have c1 := k.1
    replace k := k.2
    refine wp_idiv dX11_shaped_75 c1 (by decide) ?_
    refine wp_istore_n [1, 2, 0, 3, 4] (ls' := [(0, jI a0), (1, jI a1), (2, jI (a2 / 10)), (3, jI a3), (4, jI a4)]) dX11_shaped_76 (by decide) rfl ?_
    have c2 := k.1
    replace k := k.2
    refine wp_iinc 4 [1, 2, 3, 4, 0] (ls' := [(0, jI a0), (1, jI a1), (2, jI (a2 / 10)), (3, jI a3), (4, jI (a4 + 1))]) dX11_shaped_77 rfl c2 ⟨by decide, by decide⟩ (by decide) rfl ?_
    refine wp_goto 25 dX11_shaped_80 rfl ?_
    exact k
  · replace k := k.2 q
    refine wp_iconst dX11_shaped_49 ⟨by decide, by decide⟩ ?_
    refine wp_iload_n 3 dX11_shaped_50 rfl ?_
    have c3 := k.1
    replace k := k.2
    refine wp_imul dX11_shaped_51 c3 ?_
    refine wp_iload 4 dX11_shaped_52 rfl ?_
    refine wp_iconst dX11_shaped_54 ⟨by decide, by decide⟩ ?_
    have c4 := k.1
    replace k := k.2
    refine wp_irem dX11_shaped_55 c4 (by decide) ?_
    refine wp_if_ne 63 dX11_shaped_56 rfl (fun q => ?_) (fun q => ?_)
    · replace k := k.1 q
      refine wp_iconst dX11_shaped_63 ⟨by decide, by decide⟩ ?_
      have c5 := k.1
      replace k := k.2
      refine wp_iadd dX11_shaped_64 c5 ?_
      refine wp_istore_n [1, 2, 3, 0, 4, 5, 6] (ls' := [(0, jI a0), (1, jI a1), (2, jI a2), (3, jI ((2 * a3) + 0)), (4, jI a4), (5, jI a5), (6, jI a6)]) dX11_shaped_65 (by decide) rfl ?_
      have c6 := k.1
      replace k := k.2
      refine wp_iinc 6 [1, 2, 3, 4, 5, 6, 0] (ls' := [(0, jI a0), (1, jI a1), (2, jI a2), (3, jI ((2 * a3) + 0)), (4, jI a4), (5, jI a5), (6, jI (a6 + 1))]) dX11_shaped_66 rfl c6 ⟨by decide, by decide⟩ (by decide) rfl ?_
      refine wp_goto 42 dX11_shaped_69 rfl ?_
      exact k
    · replace k := k.2 q
      refine wp_iconst dX11_shaped_59 ⟨by decide, by decide⟩ ?_
      refine wp_goto 64 dX11_shaped_60 rfl ?_
      have c7 := k.1
      replace k := k.2
      refine wp_iadd dX11_shaped_64 c7 ?_
      refine wp_istore_n [1, 2, 3, 0, 4, 5, 6] (ls' := [(0, jI a0), (1, jI a1), (2, jI a2), (3, jI ((2 * a3) + 1)), (4, jI a4), (5, jI a5), (6, jI a6)]) dX11_shaped_65 (by decide) rfl ?_
      have c8 := k.1
      replace k := k.2
      refine wp_iinc 6 [1, 2, 3, 4, 5, 6, 0] (ls' := [(0, jI a0), (1, jI a1), (2, jI a2), (3, jI ((2 * a3) + 1)), (4, jI a4), (5, jI a5), (6, jI (a6 + 1))]) dX11_shaped_66 rfl c8 ⟨by decide, by decide⟩ (by decide) rfl ?_
      refine wp_goto 42 dX11_shaped_69 rfl ?_
      exact k
theorem bX11_pairAt {d : Nat} {h : jH} {Q : jO → jH → Prop} {a0 : Nat} {a1 : Int} {a2 : Int} (k : jOK h → j32 a1 → j32 a2 → j32 (a1 + 1) ∧ ((a2 ≤ (a1 + 1) → Q (.inl (some (jI (-1)))) h) ∧ (¬ (a2 ≤ (a1 + 1)) → hK h a0 = 9 ∧ jCall d mX11_byteAt [jR a0, jI a1] h (fun o h9 => ∃ v9, o = .inl (some (jI v9)) ∧ jCall d mX11_isDigit [jI v9] h9 (fun o h12 => ∃ v12, o = .inl (some (jI v12)) ∧ ((v12 = 0 → Q (.inl (some (jI (-1)))) h12) ∧ (¬ (v12 = 0) → j32 (a1 + 1) ∧ hK h12 a0 = 9 ∧ jCall d mX11_byteAt [jR a0, jI (a1 + 1)] h12 (fun o h22 => ∃ v22, o = .inl (some (jI v22)) ∧ jCall d mX11_isDigit [jI v22] h22 (fun o h25 => ∃ v25, o = .inl (some (jI v25)) ∧ ((v25 = 0 → Q (.inl (some (jI (-1)))) h25) ∧ (¬ (v25 = 0) → hK h25 a0 = 9 ∧ jCall d mX11_byteAt [jR a0, jI a1] h25 (fun o h35 => ∃ v35, o = .inl (some (jI v35)) ∧ j32 (v35 - 48) ∧ j32 (10 * (v35 - 48)) ∧ j32 (a1 + 1) ∧ hK h35 a0 = 9 ∧ jCall d mX11_byteAt [jR a0, jI (a1 + 1)] h35 (fun o h46 => ∃ v46, o = .inl (some (jI v46)) ∧ j32 ((10 * (v35 - 48)) + v46) ∧ j32 (((10 * (v35 - 48)) + v46) - 48) ∧ Q (.inl (some (jI (((10 * (v35 - 48)) + v46) - 48)))) h46))))))))))))) : jCall (d + 1) mX11_pairAt [jR a0, jI a1, jI a2] h Q := by
  refine jCall_of plX11 (Nat.le_of_ble_eq_true rfl) ?_
  show jWp (d + 1) mX11_pairAt 0 [(0, jR a0), (1, jI a1), (2, jI a2)] [] h Q
  refine jw_ok (fun ok q => ?_)
  replace k := k ok (q _ (.tail _ (.head _))) (q _ (.tail _ (.tail _ (.head _))))
  refine wp_iload_n 1 dX11_pairAt_0 rfl ?_
  refine wp_iconst dX11_pairAt_1 ⟨by decide, by decide⟩ ?_
  have c1 := k.1
  replace k := k.2
  refine wp_iadd dX11_pairAt_2 c1 ?_
  refine wp_iload_n 2 dX11_pairAt_3 rfl ?_
  refine wp_icmp_ge 56 dX11_pairAt_4 rfl (fun q => ?_) (fun q => ?_)
  · replace k := k.1 q
    refine wp_iconst dX11_pairAt_56 ⟨by decide, by decide⟩ ?_
    exact wp_iret dX11_pairAt_57 rfl k
  · replace k := k.2 q
    refine wp_aload_n 0 dX11_pairAt_7 rfl ?_
    refine wp_iload_n 1 dX11_pairAt_8 rfl ?_
    have c2 := k.1
    replace k := k.2
    refine wp_callV (ci := 8) (y' := mX11_byteAt) (st := []) [jI a1] rfl rfl rfl fX11_byteAt kX11_424 nX11_byteAt dX11_pairAt_9 (Nat.le_of_ble_eq_true rfl) c2 ?_
    refine jCall.mono k (fun o h9 k => ?_)
    obtain ⟨v9, e, k⟩ := k
    subst e
    show jWp (d + 1) mX11_pairAt 12 [(0, jR a0), (1, jI a1), (2, jI a2)] [jI v9] h9 Q
    refine wp_callS (y' := mX11_isDigit) (st := []) [jI v9] rfl fX11_isDigit kX11_332 nX11_isDigit dX11_pairAt_12 (Nat.le_of_ble_eq_true rfl) ?_
    refine jCall.mono k (fun o h12 k => ?_)
    obtain ⟨v12, e, k⟩ := k
    subst e
    show jWp (d + 1) mX11_pairAt 15 [(0, jR a0), (1, jI a1), (2, jI a2)] [jI v12] h12 Q
    refine wp_if_eq 56 dX11_pairAt_15 rfl (fun q => ?_) (fun q => ?_)
    · replace k := k.1 q
      refine wp_iconst dX11_pairAt_56 ⟨by decide, by decide⟩ ?_
      exact wp_iret dX11_pairAt_57 rfl k
    · replace k := k.2 q
      refine wp_aload_n 0 dX11_pairAt_18 rfl ?_
      refine wp_iload_n 1 dX11_pairAt_19 rfl ?_
      refine wp_iconst dX11_pairAt_20 ⟨by decide, by decide⟩ ?_
      have c3 := k.1
      replace k := k.2
      refine wp_iadd dX11_pairAt_21 c3 ?_
      have c4 := k.1
      replace k := k.2
      refine wp_callV (ci := 8) (y' := mX11_byteAt) (st := []) [jI (a1 + 1)] rfl rfl rfl fX11_byteAt kX11_424 nX11_byteAt dX11_pairAt_22 (Nat.le_of_ble_eq_true rfl) c4 ?_
      refine jCall.mono k (fun o h22 k => ?_)
      obtain ⟨v22, e, k⟩ := k
      subst e
      show jWp (d + 1) mX11_pairAt 25 [(0, jR a0), (1, jI a1), (2, jI a2)] [jI v22] h22 Q
      refine wp_callS (y' := mX11_isDigit) (st := []) [jI v22] rfl fX11_isDigit kX11_332 nX11_isDigit dX11_pairAt_25 (Nat.le_of_ble_eq_true rfl) ?_
      refine jCall.mono k (fun o h25 k => ?_)
      obtain ⟨v25, e, k⟩ := k
      subst e
      show jWp (d + 1) mX11_pairAt 28 [(0, jR a0), (1, jI a1), (2, jI a2)] [jI v25] h25 Q
      refine wp_if_eq 56 dX11_pairAt_28 rfl (fun q => ?_) (fun q => ?_)
      · replace k := k.1 q
        refine wp_iconst dX11_pairAt_56 ⟨by decide, by decide⟩ ?_
        exact wp_iret dX11_pairAt_57 rfl k
      · replace k := k.2 q
        refine wp_bipush dX11_pairAt_31 ⟨by decide, by decide⟩ ?_
        refine wp_aload_n 0 dX11_pairAt_33 rfl ?_
        refine wp_iload_n 1 dX11_pairAt_34 rfl ?_
        have c5 := k.1
        replace k := k.2
        refine wp_callV (ci := 8) (y' := mX11_byteAt) (st := [jI 10]) [jI a1] rfl rfl rfl fX11_byteAt kX11_424 nX11_byteAt dX11_pairAt_35 (Nat.le_of_ble_eq_true rfl) c5 ?_
        refine jCall.mono k (fun o h35 k => ?_)
        obtain ⟨v35, e, k⟩ := k
        subst e
        show jWp (d + 1) mX11_pairAt 38 [(0, jR a0), (1, jI a1), (2, jI a2)] [jI v35, jI 10] h35 Q
        refine wp_bipush dX11_pairAt_38 ⟨by decide, by decide⟩ ?_
        have c6 := k.1
        replace k := k.2
        refine wp_isub dX11_pairAt_40 c6 ?_
        have c7 := k.1
        replace k := k.2
        refine wp_imul dX11_pairAt_41 c7 ?_
        refine wp_aload_n 0 dX11_pairAt_42 rfl ?_
        refine wp_iload_n 1 dX11_pairAt_43 rfl ?_
        refine wp_iconst dX11_pairAt_44 ⟨by decide, by decide⟩ ?_
        have c8 := k.1
        replace k := k.2
        refine wp_iadd dX11_pairAt_45 c8 ?_
        have c9 := k.1
        replace k := k.2
        refine wp_callV (ci := 8) (y' := mX11_byteAt) (st := [jI (10 * (v35 - 48))]) [jI (a1 + 1)] rfl rfl rfl fX11_byteAt kX11_424 nX11_byteAt dX11_pairAt_46 (Nat.le_of_ble_eq_true rfl) c9 ?_
        refine jCall.mono k (fun o h46 k => ?_)
        obtain ⟨v46, e, k⟩ := k
        subst e
        show jWp (d + 1) mX11_pairAt 49 [(0, jR a0), (1, jI a1), (2, jI a2)] [jI v46, jI (10 * (v35 - 48))] h46 Q
        have c10 := k.1
        replace k := k.2
        refine wp_iadd dX11_pairAt_49 c10 ?_
        refine wp_bipush dX11_pairAt_50 ⟨by decide, by decide⟩ ?_
        have c11 := k.1
        replace k := k.2
        refine wp_isub dX11_pairAt_52 c11 ?_
        refine wp_goto 57 dX11_pairAt_53 rfl ?_
        exact wp_iret dX11_pairAt_57 rfl k
theorem bX11_byteAt {d : Nat} {h : jH} {Q : jO → jH → Prop} {a0 : Nat} {a1 : Int} (k : jOK h → j32 a1 → hK h a0 = 9 ∧ hK h (hR h 841 a0) = 11 ∧ 0 ≤ a1 ∧ a1 < hN h (hR h 841 a0) ∧ ((-128 ≤ hA h (hR h 841 a0) a1 ∧ hA h (hR h 841 a0) a1 ≤ 127) → Q (.inl (some (jI (hA h (hR h 841 a0) a1)))) h)) : jCall d mX11_byteAt [jR a0, jI a1] h Q := by
  refine jCall_of plX11 (Nat.le_of_ble_eq_true rfl) ?_
  show jWp d mX11_byteAt 0 [(0, jR a0), (1, jI a1)] [] h Q
  refine jw_ok (fun ok q => ?_)
  replace k := k ok (q _ (.tail _ (.head _)))
  refine wp_aload_n 0 dX11_byteAt_0 rfl ?_
  have c1 := k.1
  replace k := k.2
  refine wp_getR (ci := 8) (j := 41) rfl (by decide) gX11_240 dX11_byteAt_1 c1 rfl ?_
  refine wp_iload_n 1 dX11_byteAt_4 rfl ?_
  have c2 := k.1
  replace k := k.2
  have c3 := k.1
  replace k := k.2
  have c4 := k.1
  replace k := k.2
  refine wp_baload dX11_byteAt_5 c2 c3 c4 (fun q => ?_)
  have f5 := q
  replace k := k q
  exact wp_iret dX11_byteAt_6 rfl k
theorem bX11_fewest {d : Nat} {h : jH} {Q : jO → jH → Prop} {a0 : Nat} {a1 : Int} (k : jOK h → j32 a1 → hK h a0 = 9 ∧ j32 (2 * a1) ∧ hK h (hR h 839 a0) = 10 ∧ 0 ≤ (2 * a1) ∧ (2 * a1) < hN h (hR h 839 a0) ∧ j32 ((2 * a1) + 1) ∧ 0 ≤ ((2 * a1) + 1) ∧ ((2 * a1) + 1) < hN h (hR h 839 a0) ∧ j32 (a1 - 1) ∧ jWp (d + 1) mX11_fewest 24 [(0, jR a0), (1, jI a1), (2, jI (a1 - 1))] [] (sA (sA h (hR h 839 a0) (2 * a1) 0) (hR h 839 a0) ((2 * a1) + 1) 0) Q) : jCall (d + 1) mX11_fewest [jR a0, jI a1] h Q := by
  refine jCall_of plX11 (Nat.le_of_ble_eq_true rfl) ?_
  show jWp (d + 1) mX11_fewest 0 [(0, jR a0), (1, jI a1)] [] h Q
  refine jw_ok (fun ok q => ?_)
  replace k := k ok (q _ (.tail _ (.head _)))
  refine wp_aload_n 0 dX11_fewest_0 rfl ?_
  have c1 := k.1
  replace k := k.2
  refine wp_getR (ci := 8) (j := 39) rfl (by decide) gX11_234 dX11_fewest_1 c1 rfl ?_
  refine wp_iconst dX11_fewest_4 ⟨by decide, by decide⟩ ?_
  refine wp_iload_n 1 dX11_fewest_5 rfl ?_
  have c2 := k.1
  replace k := k.2
  refine wp_imul dX11_fewest_6 c2 ?_
  refine wp_iconst dX11_fewest_7 ⟨by decide, by decide⟩ ?_
  have c3 := k.1
  replace k := k.2
  have c4 := k.1
  replace k := k.2
  have c5 := k.1
  replace k := k.2
  refine wp_iastore dX11_fewest_8 c3 c4 c5 ?_
  refine wp_aload_n 0 dX11_fewest_9 rfl ?_
  refine wp_getR (ci := 8) (j := 39) rfl (by decide) gX11_234 dX11_fewest_10 c1 rfl ?_
  refine wp_iconst dX11_fewest_13 ⟨by decide, by decide⟩ ?_
  refine wp_iload_n 1 dX11_fewest_14 rfl ?_
  refine wp_imul dX11_fewest_15 c2 ?_
  refine wp_iconst dX11_fewest_16 ⟨by decide, by decide⟩ ?_
  have c6 := k.1
  replace k := k.2
  refine wp_iadd dX11_fewest_17 c6 ?_
  refine wp_iconst dX11_fewest_18 ⟨by decide, by decide⟩ ?_
  have c7 := k.1
  replace k := k.2
  have c8 := k.1
  replace k := k.2
  refine wp_iastore dX11_fewest_19 c3 c7 c8 ?_
  refine wp_iload_n 1 dX11_fewest_20 rfl ?_
  refine wp_iconst dX11_fewest_21 ⟨by decide, by decide⟩ ?_
  have c9 := k.1
  replace k := k.2
  refine wp_isub dX11_fewest_22 c9 ?_
  refine wp_istore_n [1, 2, 0] (ls' := [(0, jR a0), (1, jI a1), (2, jI (a1 - 1))]) dX11_fewest_23 (by decide) rfl ?_
  exact k
theorem bX11_fewest_24 {d : Nat} {h : jH} {Q : jO → jH → Prop} {a0 : Nat} {a1 : Int} {a2 : Int} (k : jOK h → j32 a1 → j32 a2 → ((a2 < 0 → Q (.inl none) h) ∧ (¬ (a2 < 0) → hK h a0 = 9 ∧ jCall d mX11_byteAt [jR a0, jI a2] h (fun o h30 => ∃ v30, o = .inl (some (jI v30)) ∧ ((v30 ≠ 29 → hK h30 a0 = 9 ∧ jCall d mX11_pairAt [jR a0, jI a2, jI a1] h30 (fun o h47 => ∃ v47, o = .inl (some (jI v47)) ∧ hK h47 a0 = 9 ∧ j32 (2 * a2) ∧ j32 ((2 * a2) + 2) ∧ hK h47 (hR h47 839 a0) = 10 ∧ 0 ≤ ((2 * a2) + 2) ∧ ((2 * a2) + 2) < hN h47 (hR h47 839 a0) ∧ (j32 (hA h47 (hR h47 839 a0) ((2 * a2) + 2)) → j32 (1 + (hA h47 (hR h47 839 a0) ((2 * a2) + 2))) ∧ jCall d mX11_byteAt [jR a0, jI a2] h47 (fun o h77 => ∃ v77, o = .inl (some (jI v77)) ∧ j32 (v77 - 32) ∧ ((v47 < 0 → jWp (d + 1) mX11_fewest 127 [(0, jR a0), (1, jI a1), (2, jI a2), (3, jI 0), (4, jI v47), (5, jI (1 + (hA h47 (hR h47 839 a0) ((2 * a2) + 2)))), (6, jI (v77 - 32))] [jI 1000] h77 Q) ∧ (¬ (v47 < 0) → hK h77 a0 = 9 ∧ j32 (2 * a2) ∧ j32 ((2 * a2) + 5) ∧ hK h77 (hR h77 839 a0) = 10 ∧ 0 ≤ ((2 * a2) + 5) ∧ ((2 * a2) + 5) < hN h77 (hR h77 839 a0) ∧ (j32 (hA h77 (hR h77 839 a0) ((2 * a2) + 5)) → j32 (1 + (hA h77 (hR h77 839 a0) ((2 * a2) + 5))) ∧ jWp (d + 1) mX11_fewest 127 [(0, jR a0), (1, jI a1), (2, jI a2), (3, jI 0), (4, jI v47), (5, jI (1 + (hA h47 (hR h47 839 a0) ((2 * a2) + 2)))), (6, jI (v77 - 32))] [jI (1 + (hA h77 (hR h77 839 a0) ((2 * a2) + 5)))] h77 Q))))))) ∧ (v30 = 29 → hK h30 a0 = 9 ∧ jCall d mX11_pairAt [jR a0, jI a2, jI a1] h30 (fun o h47_1 => ∃ v47_1, o = .inl (some (jI v47_1)) ∧ hK h47_1 a0 = 9 ∧ j32 (2 * a2) ∧ j32 ((2 * a2) + 2) ∧ hK h47_1 (hR h47_1 839 a0) = 10 ∧ 0 ≤ ((2 * a2) + 2) ∧ ((2 * a2) + 2) < hN h47_1 (hR h47_1 839 a0) ∧ (j32 (hA h47_1 (hR h47_1 839 a0) ((2 * a2) + 2)) → j32 (1 + (hA h47_1 (hR h47_1 839 a0) ((2 * a2) + 2))) ∧ j32 ((2 * a2) + 3) ∧ 0 ≤ ((2 * a2) + 3) ∧ ((2 * a2) + 3) < hN h47_1 (hR h47_1 839 a0) ∧ (j32 (hA h47_1 (hR h47_1 839 a0) ((2 * a2) + 3)) → j32 (1 + (hA h47_1 (hR h47_1 839 a0) ((2 * a2) + 3))) ∧ jWp (d + 1) mX11_fewest 127 [(0, jR a0), (1, jI a1), (2, jI a2), (3, jI 1), (4, jI v47_1), (5, jI (1 + (hA h47_1 (hR h47_1 839 a0) ((2 * a2) + 2)))), (6, jI 102)] [jI (1 + (hA h47_1 (hR h47_1 839 a0) ((2 * a2) + 3)))] h47_1 Q))))))))) : jWp (d + 1) mX11_fewest 24 [(0, jR a0), (1, jI a1), (2, jI a2)] [] h Q := by
  refine jw_ok (fun ok q => ?_)
  replace k := k ok (q _ (.tail _ (.head _))) (q _ (.tail _ (.tail _ (.head _))))
  refine wp_iload_n 2 dX11_fewest_24 rfl ?_
  refine wp_if_lt 300 dX11_fewest_25 rfl (fun q => ?_) (fun q => ?_)
  · replace k := k.1 q
    exact wp_return dX11_fewest_300 rfl k
  · replace k := k.2 q
    refine wp_aload_n 0 dX11_fewest_28 rfl ?_
    refine wp_iload_n 2 dX11_fewest_29 rfl ?_
    have c1 := k.1
    replace k := k.2
    refine wp_callV (ci := 8) (y' := mX11_byteAt) (st := []) [jI a2] rfl rfl rfl fX11_byteAt kX11_424 nX11_byteAt dX11_fewest_30 (Nat.le_of_ble_eq_true rfl) c1 ?_
    refine jCall.mono k (fun o h30 k => ?_)
    obtain ⟨v30, e, k⟩ := k
    subst e
    show jWp (d + 1) mX11_fewest 33 [(0, jR a0), (1, jI a1), (2, jI a2)] [jI v30] h30 Q
    refine wp_bipush dX11_fewest_33 ⟨by decide, by decide⟩ ?_
    refine wp_icmp_ne 42 dX11_fewest_35 rfl (fun q => ?_) (fun q => ?_)
    · replace k := k.1 q
      refine wp_iconst dX11_fewest_42 ⟨by decide, by decide⟩ ?_
      refine wp_istore_n [1, 2, 3, 0] (ls' := [(0, jR a0), (1, jI a1), (2, jI a2), (3, jI 0)]) dX11_fewest_43 (by decide) rfl ?_
      refine wp_aload_n 0 dX11_fewest_44 rfl ?_
      refine wp_iload_n 2 dX11_fewest_45 rfl ?_
      refine wp_iload_n 1 dX11_fewest_46 rfl ?_
      have c2 := k.1
      replace k := k.2
      refine wp_callV (ci := 8) (y' := mX11_pairAt) (st := []) [jI a2, jI a1] rfl rfl rfl fX11_pairAt kX11_427 nX11_pairAt dX11_fewest_47 (Nat.le_of_ble_eq_true rfl) c2 ?_
      refine jCall.mono k (fun o h47 k => ?_)
      obtain ⟨v47, e, k⟩ := k
      subst e
      show jWp (d + 1) mX11_fewest 50 [(0, jR a0), (1, jI a1), (2, jI a2), (3, jI 0)] [jI v47] h47 Q
      refine wp_istore [1, 2, 3, 4, 0] (ls' := [(0, jR a0), (1, jI a1), (2, jI a2), (3, jI 0), (4, jI v47)]) dX11_fewest_50 (by decide) rfl ?_
      refine wp_iconst dX11_fewest_52 ⟨by decide, by decide⟩ ?_
      refine wp_aload_n 0 dX11_fewest_53 rfl ?_
      have c3 := k.1
      replace k := k.2
      refine wp_getR (ci := 8) (j := 39) rfl (by decide) gX11_234 dX11_fewest_54 c3 rfl ?_
      refine wp_iconst dX11_fewest_57 ⟨by decide, by decide⟩ ?_
      refine wp_iload_n 2 dX11_fewest_58 rfl ?_
      have c4 := k.1
      replace k := k.2
      refine wp_imul dX11_fewest_59 c4 ?_
      refine wp_iconst dX11_fewest_60 ⟨by decide, by decide⟩ ?_
      have c5 := k.1
      replace k := k.2
      refine wp_iadd dX11_fewest_61 c5 ?_
      have c6 := k.1
      replace k := k.2
      have c7 := k.1
      replace k := k.2
      have c8 := k.1
      replace k := k.2
      refine wp_iaload dX11_fewest_62 c6 c7 c8 (fun q => ?_)
      have f9 := q
      replace k := k q
      have c10 := k.1
      replace k := k.2
      refine wp_iadd dX11_fewest_63 c10 ?_
      refine wp_istore [1, 2, 3, 4, 5, 0] (ls' := [(0, jR a0), (1, jI a1), (2, jI a2), (3, jI 0), (4, jI v47), (5, jI (1 + (hA h47 (hR h47 839 a0) ((2 * a2) + 2))))]) dX11_fewest_64 (by decide) rfl ?_
      refine wp_iload_n 3 dX11_fewest_66 rfl ?_
      refine wp_if_eq 75 dX11_fewest_67 rfl (fun q => ?_) (fun q => absurd q (by decide))
      refine wp_aload_n 0 dX11_fewest_75 rfl ?_
      refine wp_iload_n 2 dX11_fewest_76 rfl ?_
      refine wp_callV (ci := 8) (y' := mX11_byteAt) (st := []) [jI a2] rfl rfl rfl fX11_byteAt kX11_424 nX11_byteAt dX11_fewest_77 (Nat.le_of_ble_eq_true rfl) c3 ?_
      refine jCall.mono k (fun o h77 k => ?_)
      obtain ⟨v77, e, k⟩ := k
      subst e
      show jWp (d + 1) mX11_fewest 80 [(0, jR a0), (1, jI a1), (2, jI a2), (3, jI 0), (4, jI v47), (5, jI (1 + (hA h47 (hR h47 839 a0) ((2 * a2) + 2))))] [jI v77] h77 Q
      refine wp_bipush dX11_fewest_80 ⟨by decide, by decide⟩ ?_
      have c11 := k.1
      replace k := k.2
      refine wp_isub dX11_fewest_82 c11 ?_
      refine wp_istore [1, 2, 3, 4, 5, 6, 0] (ls' := [(0, jR a0), (1, jI a1), (2, jI a2), (3, jI 0), (4, jI v47), (5, jI (1 + (hA h47 (hR h47 839 a0) ((2 * a2) + 2)))), (6, jI (v77 - 32))]) dX11_fewest_83 (by decide) rfl ?_
      refine wp_iload_n 3 dX11_fewest_85 rfl ?_
      refine wp_if_eq 104 dX11_fewest_86 rfl (fun q => ?_) (fun q => absurd q (by decide))
      refine wp_iload 4 dX11_fewest_104 rfl ?_
      refine wp_if_lt 124 dX11_fewest_106 rfl (fun q => ?_) (fun q => ?_)
      · replace k := k.1 q
        refine wp_sipush dX11_fewest_124 ⟨by decide, by decide⟩ ?_
        exact k
      · replace k := k.2 q
        refine wp_iconst dX11_fewest_109 ⟨by decide, by decide⟩ ?_
        refine wp_aload_n 0 dX11_fewest_110 rfl ?_
        have c12 := k.1
        replace k := k.2
        refine wp_getR (ci := 8) (j := 39) rfl (by decide) gX11_234 dX11_fewest_111 c12 rfl ?_
        refine wp_iconst dX11_fewest_114 ⟨by decide, by decide⟩ ?_
        refine wp_iload_n 2 dX11_fewest_115 rfl ?_
        have c13 := k.1
        replace k := k.2
        refine wp_imul dX11_fewest_116 c13 ?_
        refine wp_iconst dX11_fewest_117 ⟨by decide, by decide⟩ ?_
        have c14 := k.1
        replace k := k.2
        refine wp_iadd dX11_fewest_118 c14 ?_
        have c15 := k.1
        replace k := k.2
        have c16 := k.1
        replace k := k.2
        have c17 := k.1
        replace k := k.2
        refine wp_iaload dX11_fewest_119 c15 c16 c17 (fun q => ?_)
        have f18 := q
        replace k := k q
        have c19 := k.1
        replace k := k.2
        refine wp_iadd dX11_fewest_120 c19 ?_
        refine wp_goto 127 dX11_fewest_121 rfl ?_
        exact k
    · replace k := k.2 q
      refine wp_iconst dX11_fewest_38 ⟨by decide, by decide⟩ ?_
      refine wp_goto 43 dX11_fewest_39 rfl ?_
      refine wp_istore_n [1, 2, 3, 0] (ls' := [(0, jR a0), (1, jI a1), (2, jI a2), (3, jI 1)]) dX11_fewest_43 (by decide) rfl ?_
      refine wp_aload_n 0 dX11_fewest_44 rfl ?_
      refine wp_iload_n 2 dX11_fewest_45 rfl ?_
      refine wp_iload_n 1 dX11_fewest_46 rfl ?_
      have c20 := k.1
      replace k := k.2
      refine wp_callV (ci := 8) (y' := mX11_pairAt) (st := []) [jI a2, jI a1] rfl rfl rfl fX11_pairAt kX11_427 nX11_pairAt dX11_fewest_47 (Nat.le_of_ble_eq_true rfl) c20 ?_
      refine jCall.mono k (fun o h47_1 k => ?_)
      obtain ⟨v47_1, e, k⟩ := k
      subst e
      show jWp (d + 1) mX11_fewest 50 [(0, jR a0), (1, jI a1), (2, jI a2), (3, jI 1)] [jI v47_1] h47_1 Q
      refine wp_istore [1, 2, 3, 4, 0] (ls' := [(0, jR a0), (1, jI a1), (2, jI a2), (3, jI 1), (4, jI v47_1)]) dX11_fewest_50 (by decide) rfl ?_
      refine wp_iconst dX11_fewest_52 ⟨by decide, by decide⟩ ?_
      refine wp_aload_n 0 dX11_fewest_53 rfl ?_
      have c21 := k.1
      replace k := k.2
      refine wp_getR (ci := 8) (j := 39) rfl (by decide) gX11_234 dX11_fewest_54 c21 rfl ?_
      refine wp_iconst dX11_fewest_57 ⟨by decide, by decide⟩ ?_
      refine wp_iload_n 2 dX11_fewest_58 rfl ?_
      have c22 := k.1
      replace k := k.2
      refine wp_imul dX11_fewest_59 c22 ?_
      refine wp_iconst dX11_fewest_60 ⟨by decide, by decide⟩ ?_
      have c23 := k.1
      replace k := k.2
      refine wp_iadd dX11_fewest_61 c23 ?_
      have c24 := k.1
      replace k := k.2
      have c25 := k.1
      replace k := k.2
      have c26 := k.1
      replace k := k.2
      refine wp_iaload dX11_fewest_62 c24 c25 c26 (fun q => ?_)
      have f27 := q
      replace k := k q
      have c28 := k.1
      replace k := k.2
      refine wp_iadd dX11_fewest_63 c28 ?_
      refine wp_istore [1, 2, 3, 4, 5, 0] (ls' := [(0, jR a0), (1, jI a1), (2, jI a2), (3, jI 1), (4, jI v47_1), (5, jI (1 + (hA h47_1 (hR h47_1 839 a0) ((2 * a2) + 2))))]) dX11_fewest_64 (by decide) rfl ?_
      refine wp_iload_n 3 dX11_fewest_66 rfl ?_
      refine wp_if_eq 75 dX11_fewest_67 rfl (fun q => absurd q (by decide)) (fun q => ?_)
      refine wp_bipush dX11_fewest_70 ⟨by decide, by decide⟩ ?_
      refine wp_goto 83 dX11_fewest_72 rfl ?_
      refine wp_istore [1, 2, 3, 4, 5, 6, 0] (ls' := [(0, jR a0), (1, jI a1), (2, jI a2), (3, jI 1), (4, jI v47_1), (5, jI (1 + (hA h47_1 (hR h47_1 839 a0) ((2 * a2) + 2)))), (6, jI 102)]) dX11_fewest_83 (by decide) rfl ?_
      refine wp_iload_n 3 dX11_fewest_85 rfl ?_
      refine wp_if_eq 104 dX11_fewest_86 rfl (fun q => absurd q (by decide)) (fun q => ?_)
      refine wp_iconst dX11_fewest_89 ⟨by decide, by decide⟩ ?_
      refine wp_aload_n 0 dX11_fewest_90 rfl ?_
      refine wp_getR (ci := 8) (j := 39) rfl (by decide) gX11_234 dX11_fewest_91 c21 rfl ?_
      refine wp_iconst dX11_fewest_94 ⟨by decide, by decide⟩ ?_
      refine wp_iload_n 2 dX11_fewest_95 rfl ?_
      refine wp_imul dX11_fewest_96 c22 ?_
      refine wp_iconst dX11_fewest_97 ⟨by decide, by decide⟩ ?_
      have c29 := k.1
      replace k := k.2
      refine wp_iadd dX11_fewest_98 c29 ?_
      have c30 := k.1
      replace k := k.2
      have c31 := k.1
      replace k := k.2
      refine wp_iaload dX11_fewest_99 c24 c30 c31 (fun q => ?_)
      have f32 := q
      replace k := k q
      have c33 := k.1
      replace k := k.2
      refine wp_iadd dX11_fewest_100 c33 ?_
      refine wp_goto 127 dX11_fewest_101 rfl ?_
      exact k
theorem bX11_fewest_127 {d : Nat} {h : jH} {Q : jO → jH → Prop} {a0 : Nat} {a1 : Int} {a2 : Int} {a3 : Int} {a4 : Int} {a5 : Int} {a6 : Int} {s0 : Int} (k : jOK h → j32 a1 → j32 a2 → j32 a3 → j32 a4 → j32 a5 → j32 a6 → ((a3 = 0 → j32 (s0 + 1) ∧ (((s0 + 1) < a5 → jWp (d + 1) mX11_fewest 167 [(0, jR a0), (1, jI a1), (2, jI a2), (5, jI a5), (6, jI a6), (7, jI s0), (8, jI a4)] [] h Q) ∧ (¬ ((s0 + 1) < a5) → (((s0 + 1) ≠ a5 → jWp (d + 1) mX11_fewest 171 [(0, jR a0), (1, jI a1), (2, jI a2), (5, jI a5), (6, jI a6), (7, jI s0), (8, jI a4)] [] h Q) ∧ ((s0 + 1) = a5 → ((a6 ≤ 99 → jWp (d + 1) mX11_fewest 171 [(0, jR a0), (1, jI a1), (2, jI a2), (5, jI a5), (6, jI a6), (7, jI s0), (8, jI a4)] [] h Q) ∧ (¬ (a6 ≤ 99) → jWp (d + 1) mX11_fewest 167 [(0, jR a0), (1, jI a1), (2, jI a2), (5, jI a5), (6, jI a6), (7, jI s0), (8, jI a4)] [] h Q))))))) ∧ (¬ (a3 = 0) → j32 (s0 + 1) ∧ (((s0 + 1) < a5 → jWp (d + 1) mX11_fewest 167 [(0, jR a0), (1, jI a1), (2, jI a2), (5, jI a5), (6, jI a6), (7, jI s0), (8, jI 102)] [] h Q) ∧ (¬ ((s0 + 1) < a5) → (((s0 + 1) ≠ a5 → jWp (d + 1) mX11_fewest 171 [(0, jR a0), (1, jI a1), (2, jI a2), (5, jI a5), (6, jI a6), (7, jI s0), (8, jI 102)] [] h Q) ∧ ((s0 + 1) = a5 → ((a6 ≤ 99 → jWp (d + 1) mX11_fewest 171 [(0, jR a0), (1, jI a1), (2, jI a2), (5, jI a5), (6, jI a6), (7, jI s0), (8, jI 102)] [] h Q) ∧ (¬ (a6 ≤ 99) → jWp (d + 1) mX11_fewest 167 [(0, jR a0), (1, jI a1), (2, jI a2), (5, jI a5), (6, jI a6), (7, jI s0), (8, jI 102)] [] h Q))))))))) : jWp (d + 1) mX11_fewest 127 [(0, jR a0), (1, jI a1), (2, jI a2), (3, jI a3), (4, jI a4), (5, jI a5), (6, jI a6)] [jI s0] h Q := by
  refine jw_ok (fun ok q => ?_)
  replace k := k ok (q _ (.tail _ (.head _))) (q _ (.tail _ (.tail _ (.head _)))) (q _ (.tail _ (.tail _ (.tail _ (.head _))))) (q _ (.tail _ (.tail _ (.tail _ (.tail _ (.head _)))))) (q _ (.tail _ (.tail _ (.tail _ (.tail _ (.tail _ (.head _))))))) (q _ (.tail _ (.tail _ (.tail _ (.tail _ (.tail _ (.tail _ (.head _))))))))
  refine wp_istore [1, 2, 3, 4, 5, 6, 7, 0] (ls' := [(0, jR a0), (1, jI a1), (2, jI a2), (3, jI a3), (4, jI a4), (5, jI a5), (6, jI a6), (7, jI s0)]) dX11_fewest_127 (by decide) rfl ?_
  refine wp_iload_n 3 dX11_fewest_129 rfl ?_
  refine wp_if_eq 138 dX11_fewest_130 rfl (fun q => ?_) (fun q => ?_)
  · replace k := k.1 q
    refine wp_iload 4 dX11_fewest_138 rfl ?_
    refine wp_istore [1, 2, 3, 6, 7, 8, 0] (ls' := [(0, jR a0), (1, jI a1), (2, jI a2), (5, jI a5), (6, jI a6), (7, jI s0), (8, jI a4)]) dX11_fewest_140 (by decide) rfl ?_
    refine wp_iload 5 dX11_fewest_142 rfl ?_
    refine wp_iconst dX11_fewest_144 ⟨by decide, by decide⟩ ?_
    have c1 := k.1
    replace k := k.2
    refine wp_iadd dX11_fewest_145 c1 ?_
    refine wp_iload 3 dX11_fewest_146 rfl ?_
    refine wp_icmp_lt 167 dX11_fewest_148 rfl (fun q => ?_) (fun q => ?_)
    · replace k := k.1 q
      exact k
    · replace k := k.2 q
      refine wp_iload 5 dX11_fewest_151 rfl ?_
      refine wp_iconst dX11_fewest_153 ⟨by decide, by decide⟩ ?_
      refine wp_iadd dX11_fewest_154 c1 ?_
      refine wp_iload 3 dX11_fewest_155 rfl ?_
      refine wp_icmp_ne 171 dX11_fewest_157 rfl (fun q => ?_) (fun q => ?_)
      · replace k := k.1 q
        exact k
      · replace k := k.2 q
        refine wp_bipush dX11_fewest_160 ⟨by decide, by decide⟩ ?_
        refine wp_iload 4 dX11_fewest_162 rfl ?_
        refine wp_icmp_ge 171 dX11_fewest_164 rfl (fun q => ?_) (fun q => ?_)
        · replace k := k.1 q
          exact k
        · replace k := k.2 q
          exact k
  · replace k := k.2 q
    refine wp_bipush dX11_fewest_133 ⟨by decide, by decide⟩ ?_
    refine wp_goto 140 dX11_fewest_135 rfl ?_
    refine wp_istore [1, 2, 3, 6, 7, 8, 0] (ls' := [(0, jR a0), (1, jI a1), (2, jI a2), (5, jI a5), (6, jI a6), (7, jI s0), (8, jI 102)]) dX11_fewest_140 (by decide) rfl ?_
    refine wp_iload 5 dX11_fewest_142 rfl ?_
    refine wp_iconst dX11_fewest_144 ⟨by decide, by decide⟩ ?_
    have c2 := k.1
    replace k := k.2
    refine wp_iadd dX11_fewest_145 c2 ?_
    refine wp_iload 3 dX11_fewest_146 rfl ?_
    refine wp_icmp_lt 167 dX11_fewest_148 rfl (fun q => ?_) (fun q => ?_)
    · replace k := k.1 q
      exact k
    · replace k := k.2 q
      refine wp_iload 5 dX11_fewest_151 rfl ?_
      refine wp_iconst dX11_fewest_153 ⟨by decide, by decide⟩ ?_
      refine wp_iadd dX11_fewest_154 c2 ?_
      refine wp_iload 3 dX11_fewest_155 rfl ?_
      refine wp_icmp_ne 171 dX11_fewest_157 rfl (fun q => ?_) (fun q => ?_)
      · replace k := k.1 q
        exact k
      · replace k := k.2 q
        refine wp_bipush dX11_fewest_160 ⟨by decide, by decide⟩ ?_
        refine wp_iload 4 dX11_fewest_162 rfl ?_
        refine wp_icmp_ge 171 dX11_fewest_164 rfl (fun q => ?_) (fun q => ?_)
        · replace k := k.1 q
          exact k
        · replace k := k.2 q
          exact k
theorem bX11_fewest_167 {d : Nat} {h : jH} {Q : jO → jH → Prop} {a0 : Nat} {a1 : Int} {a2 : Int} {a5 : Int} {a6 : Int} {a7 : Int} {a8 : Int} (k : jOK h → j32 a1 → j32 a2 → j32 a5 → j32 a6 → j32 a7 → j32 a8 → jWp (d + 1) mX11_fewest 172 [(0, jR a0), (1, jI a1), (2, jI a2), (5, jI a5), (6, jI a6), (7, jI a7), (8, jI a8)] [jI 1] h Q) : jWp (d + 1) mX11_fewest 167 [(0, jR a0), (1, jI a1), (2, jI a2), (5, jI a5), (6, jI a6), (7, jI a7), (8, jI a8)] [] h Q := by
  refine jw_ok (fun ok q => ?_)
  replace k := k ok (q _ (.tail _ (.head _))) (q _ (.tail _ (.tail _ (.head _)))) (q _ (.tail _ (.tail _ (.tail _ (.head _))))) (q _ (.tail _ (.tail _ (.tail _ (.tail _ (.head _)))))) (q _ (.tail _ (.tail _ (.tail _ (.tail _ (.tail _ (.head _))))))) (q _ (.tail _ (.tail _ (.tail _ (.tail _ (.tail _ (.tail _ (.head _))))))))
  refine wp_iconst dX11_fewest_167 ⟨by decide, by decide⟩ ?_
  refine wp_goto 172 dX11_fewest_168 rfl ?_
  exact k
theorem bX11_fewest_171 {d : Nat} {h : jH} {Q : jO → jH → Prop} {a0 : Nat} {a1 : Int} {a2 : Int} {a5 : Int} {a6 : Int} {a7 : Int} {a8 : Int} (k : jOK h → j32 a1 → j32 a2 → j32 a5 → j32 a6 → j32 a7 → j32 a8 → jWp (d + 1) mX11_fewest 172 [(0, jR a0), (1, jI a1), (2, jI a2), (5, jI a5), (6, jI a6), (7, jI a7), (8, jI a8)] [jI 0] h Q) : jWp (d + 1) mX11_fewest 171 [(0, jR a0), (1, jI a1), (2, jI a2), (5, jI a5), (6, jI a6), (7, jI a7), (8, jI a8)] [] h Q := by
  refine jw_ok (fun ok q => ?_)
  replace k := k ok (q _ (.tail _ (.head _))) (q _ (.tail _ (.tail _ (.head _)))) (q _ (.tail _ (.tail _ (.tail _ (.head _))))) (q _ (.tail _ (.tail _ (.tail _ (.tail _ (.head _)))))) (q _ (.tail _ (.tail _ (.tail _ (.tail _ (.tail _ (.head _))))))) (q _ (.tail _ (.tail _ (.tail _ (.tail _ (.tail _ (.tail _ (.head _))))))))
  refine wp_iconst dX11_fewest_171 ⟨by decide, by decide⟩ ?_
  exact k
theorem bX11_fewest_172 {d : Nat} {h : jH} {Q : jO → jH → Prop} {a0 : Nat} {a1 : Int} {a2 : Int} {a5 : Int} {a6 : Int} {a7 : Int} {a8 : Int} {s0 : Int} (k : jOK h → j32 a1 → j32 a2 → j32 a5 → j32 a6 → j32 a7 → j32 a8 → j32 (a5 + 1) ∧ (((a5 + 1) < a7 → jWp (d + 1) mX11_fewest 199 [(0, jR a0), (1, jI a1), (2, jI a2), (5, jI a5), (6, jI a6), (7, jI a7), (8, jI a8), (9, jI s0)] [] h Q) ∧ (¬ ((a5 + 1) < a7) → (((a5 + 1) ≠ a7 → jWp (d + 1) mX11_fewest 203 [(0, jR a0), (1, jI a1), (2, jI a2), (5, jI a5), (6, jI a6), (7, jI a7), (8, jI a8), (9, jI s0)] [] h Q) ∧ ((a5 + 1) = a7 → ((a8 ≤ 100 → jWp (d + 1) mX11_fewest 203 [(0, jR a0), (1, jI a1), (2, jI a2), (5, jI a5), (6, jI a6), (7, jI a7), (8, jI a8), (9, jI s0)] [] h Q) ∧ (¬ (a8 ≤ 100) → jWp (d + 1) mX11_fewest 199 [(0, jR a0), (1, jI a1), (2, jI a2), (5, jI a5), (6, jI a6), (7, jI a7), (8, jI a8), (9, jI s0)] [] h Q))))))) : jWp (d + 1) mX11_fewest 172 [(0, jR a0), (1, jI a1), (2, jI a2), (5, jI a5), (6, jI a6), (7, jI a7), (8, jI a8)] [jI s0] h Q := by
  refine jw_ok (fun ok q => ?_)
  replace k := k ok (q _ (.tail _ (.head _))) (q _ (.tail _ (.tail _ (.head _)))) (q _ (.tail _ (.tail _ (.tail _ (.head _))))) (q _ (.tail _ (.tail _ (.tail _ (.tail _ (.head _)))))) (q _ (.tail _ (.tail _ (.tail _ (.tail _ (.tail _ (.head _))))))) (q _ (.tail _ (.tail _ (.tail _ (.tail _ (.tail _ (.tail _ (.head _))))))))
  refine wp_istore [1, 2, 3, 4, 5, 6, 7, 0] (ls' := [(0, jR a0), (1, jI a1), (2, jI a2), (5, jI a5), (6, jI a6), (7, jI a7), (8, jI a8), (9, jI s0)]) dX11_fewest_172 (by decide) rfl ?_
  refine wp_iload 3 dX11_fewest_174 rfl ?_
  refine wp_iconst dX11_fewest_176 ⟨by decide, by decide⟩ ?_
  have c1 := k.1
  replace k := k.2
  refine wp_iadd dX11_fewest_177 c1 ?_
  refine wp_iload 5 dX11_fewest_178 rfl ?_
  refine wp_icmp_lt 199 dX11_fewest_180 rfl (fun q => ?_) (fun q => ?_)
  · replace k := k.1 q
    exact k
  · replace k := k.2 q
    refine wp_iload 3 dX11_fewest_183 rfl ?_
    refine wp_iconst dX11_fewest_185 ⟨by decide, by decide⟩ ?_
    refine wp_iadd dX11_fewest_186 c1 ?_
    refine wp_iload 5 dX11_fewest_187 rfl ?_
    refine wp_icmp_ne 203 dX11_fewest_189 rfl (fun q => ?_) (fun q => ?_)
    · replace k := k.1 q
      exact k
    · replace k := k.2 q
      refine wp_bipush dX11_fewest_192 ⟨by decide, by decide⟩ ?_
      refine wp_iload 6 dX11_fewest_194 rfl ?_
      refine wp_icmp_ge 203 dX11_fewest_196 rfl (fun q => ?_) (fun q => ?_)
      · replace k := k.1 q
        exact k
      · replace k := k.2 q
        exact k
theorem bX11_fewest_199 {d : Nat} {h : jH} {Q : jO → jH → Prop} {a0 : Nat} {a1 : Int} {a2 : Int} {a5 : Int} {a6 : Int} {a7 : Int} {a8 : Int} {a9 : Int} (k : jOK h → j32 a1 → j32 a2 → j32 a5 → j32 a6 → j32 a7 → j32 a8 → j32 a9 → jWp (d + 1) mX11_fewest 204 [(0, jR a0), (1, jI a1), (2, jI a2), (5, jI a5), (6, jI a6), (7, jI a7), (8, jI a8), (9, jI a9)] [jI 1] h Q) : jWp (d + 1) mX11_fewest 199 [(0, jR a0), (1, jI a1), (2, jI a2), (5, jI a5), (6, jI a6), (7, jI a7), (8, jI a8), (9, jI a9)] [] h Q := by
  refine jw_ok (fun ok q => ?_)
  replace k := k ok (q _ (.tail _ (.head _))) (q _ (.tail _ (.tail _ (.head _)))) (q _ (.tail _ (.tail _ (.tail _ (.head _))))) (q _ (.tail _ (.tail _ (.tail _ (.tail _ (.head _)))))) (q _ (.tail _ (.tail _ (.tail _ (.tail _ (.tail _ (.head _))))))) (q _ (.tail _ (.tail _ (.tail _ (.tail _ (.tail _ (.tail _ (.head _)))))))) (q _ (.tail _ (.tail _ (.tail _ (.tail _ (.tail _ (.tail _ (.tail _ (.head _)))))))))
  refine wp_iconst dX11_fewest_199 ⟨by decide, by decide⟩ ?_
  refine wp_goto 204 dX11_fewest_200 rfl ?_
  exact k
theorem bX11_fewest_203 {d : Nat} {h : jH} {Q : jO → jH → Prop} {a0 : Nat} {a1 : Int} {a2 : Int} {a5 : Int} {a6 : Int} {a7 : Int} {a8 : Int} {a9 : Int} (k : jOK h → j32 a1 → j32 a2 → j32 a5 → j32 a6 → j32 a7 → j32 a8 → j32 a9 → jWp (d + 1) mX11_fewest 204 [(0, jR a0), (1, jI a1), (2, jI a2), (5, jI a5), (6, jI a6), (7, jI a7), (8, jI a8), (9, jI a9)] [jI 0] h Q) : jWp (d + 1) mX11_fewest 203 [(0, jR a0), (1, jI a1), (2, jI a2), (5, jI a5), (6, jI a6), (7, jI a7), (8, jI a8), (9, jI a9)] [] h Q := by
  refine jw_ok (fun ok q => ?_)
  replace k := k ok (q _ (.tail _ (.head _))) (q _ (.tail _ (.tail _ (.head _)))) (q _ (.tail _ (.tail _ (.tail _ (.head _))))) (q _ (.tail _ (.tail _ (.tail _ (.tail _ (.head _)))))) (q _ (.tail _ (.tail _ (.tail _ (.tail _ (.tail _ (.head _))))))) (q _ (.tail _ (.tail _ (.tail _ (.tail _ (.tail _ (.tail _ (.head _)))))))) (q _ (.tail _ (.tail _ (.tail _ (.tail _ (.tail _ (.tail _ (.tail _ (.head _)))))))))
  refine wp_iconst dX11_fewest_203 ⟨by decide, by decide⟩ ?_
  exact k
theorem bX11_fewest_204 {d : Nat} {h : jH} {Q : jO → jH → Prop} {a0 : Nat} {a1 : Int} {a2 : Int} {a5 : Int} {a6 : Int} {a7 : Int} {a8 : Int} {a9 : Int} {s0 : Int} (k : jOK h → j32 a1 → j32 a2 → j32 a5 → j32 a6 → j32 a7 → j32 a8 → j32 a9 → hK h a0 = 9 ∧ j32 (2 * a2) ∧ ((a9 = 0 → hK h (hR h 839 a0) = 10 ∧ 0 ≤ (2 * a2) ∧ (2 * a2) < hN h (hR h 839 a0) ∧ ((a9 = 0 → jWp (d + 1) mX11_fewest 247 [(0, jR a0), (1, jI a1), (2, jI a2), (5, jI a5), (7, jI a7), (8, jI a8), (10, jI s0)] [jI a6, jI (2 * a2), jR (hR h 840 a0)] (sA h (hR h 839 a0) (2 * a2) a5) Q) ∧ (¬ (a9 = 0) → jWp (d + 1) mX11_fewest 247 [(0, jR a0), (1, jI a1), (2, jI a2), (5, jI a5), (7, jI a7), (8, jI a8), (10, jI s0)] [jI 99, jI (2 * a2), jR (hR h 840 a0)] (sA h (hR h 839 a0) (2 * a2) a5) Q))) ∧ (¬ (a9 = 0) → j32 (a7 + 1) ∧ hK h (hR h 839 a0) = 10 ∧ 0 ≤ (2 * a2) ∧ (2 * a2) < hN h (hR h 839 a0) ∧ ((a9 = 0 → jWp (d + 1) mX11_fewest 247 [(0, jR a0), (1, jI a1), (2, jI a2), (5, jI a5), (7, jI a7), (8, jI a8), (10, jI s0)] [jI a6, jI (2 * a2), jR (hR h 840 a0)] (sA h (hR h 839 a0) (2 * a2) (a7 + 1)) Q) ∧ (¬ (a9 = 0) → jWp (d + 1) mX11_fewest 247 [(0, jR a0), (1, jI a1), (2, jI a2), (5, jI a5), (7, jI a7), (8, jI a8), (10, jI s0)] [jI 99, jI (2 * a2), jR (hR h 840 a0)] (sA h (hR h 839 a0) (2 * a2) (a7 + 1)) Q))))) : jWp (d + 1) mX11_fewest 204 [(0, jR a0), (1, jI a1), (2, jI a2), (5, jI a5), (6, jI a6), (7, jI a7), (8, jI a8), (9, jI a9)] [jI s0] h Q := by
  refine jw_ok (fun ok q => ?_)
  replace k := k ok (q _ (.tail _ (.head _))) (q _ (.tail _ (.tail _ (.head _)))) (q _ (.tail _ (.tail _ (.tail _ (.head _))))) (q _ (.tail _ (.tail _ (.tail _ (.tail _ (.head _)))))) (q _ (.tail _ (.tail _ (.tail _ (.tail _ (.tail _ (.head _))))))) (q _ (.tail _ (.tail _ (.tail _ (.tail _ (.tail _ (.tail _ (.head _)))))))) (q _ (.tail _ (.tail _ (.tail _ (.tail _ (.tail _ (.tail _ (.tail _ (.head _)))))))))
  refine wp_istore [1, 2, 3, 4, 5, 6, 7, 8, 0] (ls' := [(0, jR a0), (1, jI a1), (2, jI a2), (5, jI a5), (6, jI a6), (7, jI a7), (8, jI a8), (9, jI a9), (10, jI s0)]) dX11_fewest_204 (by decide) rfl ?_
  refine wp_aload_n 0 dX11_fewest_206 rfl ?_
  have c1 := k.1
  replace k := k.2
  refine wp_getR (ci := 8) (j := 39) rfl (by decide) gX11_234 dX11_fewest_207 c1 rfl ?_
  refine wp_iconst dX11_fewest_210 ⟨by decide, by decide⟩ ?_
  refine wp_iload_n 2 dX11_fewest_211 rfl ?_
  have c2 := k.1
  replace k := k.2
  refine wp_imul dX11_fewest_212 c2 ?_
  refine wp_iload 7 dX11_fewest_213 rfl ?_
  refine wp_if_eq 225 dX11_fewest_215 rfl (fun q => ?_) (fun q => ?_)
  · replace k := k.1 q
    refine wp_iload 3 dX11_fewest_225 rfl ?_
    have c3 := k.1
    replace k := k.2
    have c4 := k.1
    replace k := k.2
    have c5 := k.1
    replace k := k.2
    refine wp_iastore dX11_fewest_227 c3 c4 c5 ?_
    refine wp_aload_n 0 dX11_fewest_228 rfl ?_
    refine wp_getR (ci := 8) (j := 40) rfl (by decide) gX11_237 dX11_fewest_229 c1 rfl ?_
    refine wp_iconst dX11_fewest_232 ⟨by decide, by decide⟩ ?_
    refine wp_iload_n 2 dX11_fewest_233 rfl ?_
    refine wp_imul dX11_fewest_234 c2 ?_
    refine wp_iload 7 dX11_fewest_235 rfl ?_
    refine wp_if_eq 245 dX11_fewest_237 rfl (fun q => ?_) (fun q => ?_)
    · replace k := k.1 q
      refine wp_iload 4 dX11_fewest_245 rfl ?_
      refine wp_sub [0, 1, 2, 3, 5, 6, 8] (ls' := [(0, jR a0), (1, jI a1), (2, jI a2), (5, jI a5), (7, jI a7), (8, jI a8), (10, jI s0)]) rfl ?_
      exact k
    · replace k := k.2 q
      refine wp_bipush dX11_fewest_240 ⟨by decide, by decide⟩ ?_
      refine wp_goto 247 dX11_fewest_242 rfl ?_
      refine wp_sub [0, 1, 2, 3, 5, 6, 8] (ls' := [(0, jR a0), (1, jI a1), (2, jI a2), (5, jI a5), (7, jI a7), (8, jI a8), (10, jI s0)]) rfl ?_
      exact k
  · replace k := k.2 q
    refine wp_iload 5 dX11_fewest_218 rfl ?_
    refine wp_iconst dX11_fewest_220 ⟨by decide, by decide⟩ ?_
    have c6 := k.1
    replace k := k.2
    refine wp_iadd dX11_fewest_221 c6 ?_
    refine wp_goto 227 dX11_fewest_222 rfl ?_
    have c7 := k.1
    replace k := k.2
    have c8 := k.1
    replace k := k.2
    have c9 := k.1
    replace k := k.2
    refine wp_iastore dX11_fewest_227 c7 c8 c9 ?_
    refine wp_aload_n 0 dX11_fewest_228 rfl ?_
    refine wp_getR (ci := 8) (j := 40) rfl (by decide) gX11_237 dX11_fewest_229 c1 rfl ?_
    refine wp_iconst dX11_fewest_232 ⟨by decide, by decide⟩ ?_
    refine wp_iload_n 2 dX11_fewest_233 rfl ?_
    refine wp_imul dX11_fewest_234 c2 ?_
    refine wp_iload 7 dX11_fewest_235 rfl ?_
    refine wp_if_eq 245 dX11_fewest_237 rfl (fun q => ?_) (fun q => ?_)
    · replace k := k.1 q
      refine wp_iload 4 dX11_fewest_245 rfl ?_
      refine wp_sub [0, 1, 2, 3, 5, 6, 8] (ls' := [(0, jR a0), (1, jI a1), (2, jI a2), (5, jI a5), (7, jI a7), (8, jI a8), (10, jI s0)]) rfl ?_
      exact k
    · replace k := k.2 q
      refine wp_bipush dX11_fewest_240 ⟨by decide, by decide⟩ ?_
      refine wp_goto 247 dX11_fewest_242 rfl ?_
      refine wp_sub [0, 1, 2, 3, 5, 6, 8] (ls' := [(0, jR a0), (1, jI a1), (2, jI a2), (5, jI a5), (7, jI a7), (8, jI a8), (10, jI s0)]) rfl ?_
      exact k
theorem bX11_fewest_247 {d : Nat} {h : jH} {Q : jO → jH → Prop} {a0 : Nat} {a1 : Int} {a2 : Int} {a5 : Int} {a7 : Int} {a8 : Int} {a10 : Int} {s0 : Int} {s1 : Int} {s2 : Nat} (k : jOK h → j32 a1 → j32 a2 → j32 a5 → j32 a7 → j32 a8 → j32 a10 → hK h s2 = 10 ∧ 0 ≤ s1 ∧ s1 < hN h s2 ∧ hK h a0 = 9 ∧ j32 (2 * a2) ∧ j32 ((2 * a2) + 1) ∧ ((a10 = 0 → jWp (d + 1) mX11_fewest 271 [(0, jR a0), (1, jI a1), (2, jI a2), (8, jI a8), (10, jI a10)] [jI a7, jI ((2 * a2) + 1), jR (hR h 839 a0)] (sA h s2 s1 s0) Q) ∧ (¬ (a10 = 0) → j32 (a5 + 1) ∧ jWp (d + 1) mX11_fewest 271 [(0, jR a0), (1, jI a1), (2, jI a2), (8, jI a8), (10, jI a10)] [jI (a5 + 1), jI ((2 * a2) + 1), jR (hR h 839 a0)] (sA h s2 s1 s0) Q))) : jWp (d + 1) mX11_fewest 247 [(0, jR a0), (1, jI a1), (2, jI a2), (5, jI a5), (7, jI a7), (8, jI a8), (10, jI a10)] [jI s0, jI s1, jR s2] h Q := by
  refine jw_ok (fun ok q => ?_)
  replace k := k ok (q _ (.tail _ (.head _))) (q _ (.tail _ (.tail _ (.head _)))) (q _ (.tail _ (.tail _ (.tail _ (.head _))))) (q _ (.tail _ (.tail _ (.tail _ (.tail _ (.head _)))))) (q _ (.tail _ (.tail _ (.tail _ (.tail _ (.tail _ (.head _))))))) (q _ (.tail _ (.tail _ (.tail _ (.tail _ (.tail _ (.tail _ (.head _))))))))
  have c1 := k.1
  replace k := k.2
  have c2 := k.1
  replace k := k.2
  have c3 := k.1
  replace k := k.2
  refine wp_iastore dX11_fewest_247 c1 c2 c3 ?_
  refine wp_aload_n 0 dX11_fewest_248 rfl ?_
  have c4 := k.1
  replace k := k.2
  refine wp_getR (ci := 8) (j := 39) rfl (by decide) gX11_234 dX11_fewest_249 c4 rfl ?_
  refine wp_iconst dX11_fewest_252 ⟨by decide, by decide⟩ ?_
  refine wp_iload_n 2 dX11_fewest_253 rfl ?_
  have c5 := k.1
  replace k := k.2
  refine wp_imul dX11_fewest_254 c5 ?_
  refine wp_iconst dX11_fewest_255 ⟨by decide, by decide⟩ ?_
  have c6 := k.1
  replace k := k.2
  refine wp_iadd dX11_fewest_256 c6 ?_
  refine wp_iload 6 dX11_fewest_257 rfl ?_
  refine wp_if_eq 269 dX11_fewest_259 rfl (fun q => ?_) (fun q => ?_)
  · replace k := k.1 q
    refine wp_iload 4 dX11_fewest_269 rfl ?_
    refine wp_sub [0, 1, 2, 5, 6] (ls' := [(0, jR a0), (1, jI a1), (2, jI a2), (8, jI a8), (10, jI a10)]) rfl ?_
    exact k
  · replace k := k.2 q
    refine wp_iload 3 dX11_fewest_262 rfl ?_
    refine wp_iconst dX11_fewest_264 ⟨by decide, by decide⟩ ?_
    have c7 := k.1
    replace k := k.2
    refine wp_iadd dX11_fewest_265 c7 ?_
    refine wp_goto 271 dX11_fewest_266 rfl ?_
    refine wp_sub [0, 1, 2, 5, 6] (ls' := [(0, jR a0), (1, jI a1), (2, jI a2), (8, jI a8), (10, jI a10)]) rfl ?_
    exact k
theorem bX11_fewest_271 {d : Nat} {h : jH} {Q : jO → jH → Prop} {a0 : Nat} {a1 : Int} {a2 : Int} {a8 : Int} {a10 : Int} {s0 : Int} {s1 : Int} {s2 : Nat} (k : jOK h → j32 a1 → j32 a2 → j32 a8 → j32 a10 → hK h s2 = 10 ∧ 0 ≤ s1 ∧ s1 < hN h s2 ∧ hK h a0 = 9 ∧ j32 (2 * a2) ∧ j32 ((2 * a2) + 1) ∧ ((a10 = 0 → jWp (d + 1) mX11_fewest 293 [(0, jR a0), (1, jI a1), (2, jI a2)] [jI a8, jI ((2 * a2) + 1), jR (hR h 840 a0)] (sA h s2 s1 s0) Q) ∧ (¬ (a10 = 0) → jWp (d + 1) mX11_fewest 293 [(0, jR a0), (1, jI a1), (2, jI a2)] [jI 100, jI ((2 * a2) + 1), jR (hR h 840 a0)] (sA h s2 s1 s0) Q))) : jWp (d + 1) mX11_fewest 271 [(0, jR a0), (1, jI a1), (2, jI a2), (8, jI a8), (10, jI a10)] [jI s0, jI s1, jR s2] h Q := by
  refine jw_ok (fun ok q => ?_)
  replace k := k ok (q _ (.tail _ (.head _))) (q _ (.tail _ (.tail _ (.head _)))) (q _ (.tail _ (.tail _ (.tail _ (.head _))))) (q _ (.tail _ (.tail _ (.tail _ (.tail _ (.head _))))))
  have c1 := k.1
  replace k := k.2
  have c2 := k.1
  replace k := k.2
  have c3 := k.1
  replace k := k.2
  refine wp_iastore dX11_fewest_271 c1 c2 c3 ?_
  refine wp_aload_n 0 dX11_fewest_272 rfl ?_
  have c4 := k.1
  replace k := k.2
  refine wp_getR (ci := 8) (j := 40) rfl (by decide) gX11_237 dX11_fewest_273 c4 rfl ?_
  refine wp_iconst dX11_fewest_276 ⟨by decide, by decide⟩ ?_
  refine wp_iload_n 2 dX11_fewest_277 rfl ?_
  have c5 := k.1
  replace k := k.2
  refine wp_imul dX11_fewest_278 c5 ?_
  refine wp_iconst dX11_fewest_279 ⟨by decide, by decide⟩ ?_
  have c6 := k.1
  replace k := k.2
  refine wp_iadd dX11_fewest_280 c6 ?_
  refine wp_iload 4 dX11_fewest_281 rfl ?_
  refine wp_if_eq 291 dX11_fewest_283 rfl (fun q => ?_) (fun q => ?_)
  · replace k := k.1 q
    refine wp_iload 3 dX11_fewest_291 rfl ?_
    refine wp_sub [0, 1, 2] (ls' := [(0, jR a0), (1, jI a1), (2, jI a2)]) rfl ?_
    exact k
  · replace k := k.2 q
    refine wp_bipush dX11_fewest_286 ⟨by decide, by decide⟩ ?_
    refine wp_goto 293 dX11_fewest_288 rfl ?_
    refine wp_sub [0, 1, 2] (ls' := [(0, jR a0), (1, jI a1), (2, jI a2)]) rfl ?_
    exact k
theorem bX11_fewest_293 {d : Nat} {h : jH} {Q : jO → jH → Prop} {a0 : Nat} {a1 : Int} {a2 : Int} {s0 : Int} {s1 : Int} {s2 : Nat} (k : jOK h → j32 a1 → j32 a2 → hK h s2 = 10 ∧ 0 ≤ s1 ∧ s1 < hN h s2 ∧ j32 (a2 + (-1)) ∧ jWp (d + 1) mX11_fewest 24 [(0, jR a0), (1, jI a1), (2, jI (a2 + (-1)))] [] (sA h s2 s1 s0) Q) : jWp (d + 1) mX11_fewest 293 [(0, jR a0), (1, jI a1), (2, jI a2)] [jI s0, jI s1, jR s2] h Q := by
  refine jw_ok (fun ok q => ?_)
  replace k := k ok (q _ (.tail _ (.head _))) (q _ (.tail _ (.tail _ (.head _))))
  have c1 := k.1
  replace k := k.2
  have c2 := k.1
  replace k := k.2
  have c3 := k.1
  replace k := k.2
  refine wp_iastore dX11_fewest_293 c1 c2 c3 ?_
  have c4 := k.1
  replace k := k.2
  refine wp_iinc 2 [1, 2, 0] (ls' := [(0, jR a0), (1, jI a1), (2, jI (a2 + (-1)))]) dX11_fewest_294 rfl c4 ⟨by decide, by decide⟩ (by decide) rfl ?_
  refine wp_goto 24 dX11_fewest_297 rfl ?_
  exact k
theorem bX11_checkSum {d : Nat} {h : jH} {Q : jO → jH → Prop} {a0 : Nat} {a1 : Int} (k : jOK h → j32 a1 → hK h a0 = 10 ∧ 0 ≤ (0 : Int) ∧ 0 < hN h a0 ∧ (j32 (hA h a0 0) → jWp d mX11_checkSum 6 [(0, jR a0), (1, jI a1), (2, jI (hA h a0 0)), (3, jI 1)] [] h Q)) : jCall d mX11_checkSum [jR a0, jI a1] h Q := by
  refine jCall_of plX11 (Nat.le_of_ble_eq_true rfl) ?_
  show jWp d mX11_checkSum 0 [(0, jR a0), (1, jI a1)] [] h Q
  refine jw_ok (fun ok q => ?_)
  replace k := k ok (q _ (.tail _ (.head _)))
  refine wp_aload_n 0 dX11_checkSum_0 rfl ?_
  refine wp_iconst dX11_checkSum_1 ⟨by decide, by decide⟩ ?_
  have c1 := k.1
  replace k := k.2
  have c2 := k.1
  replace k := k.2
  have c3 := k.1
  replace k := k.2
  refine wp_iaload dX11_checkSum_2 c1 c2 c3 (fun q => ?_)
  have f4 := q
  replace k := k q
  refine wp_istore_n [1, 2, 0] (ls' := [(0, jR a0), (1, jI a1), (2, jI (hA h a0 0))]) dX11_checkSum_3 (by decide) rfl ?_
  refine wp_iconst dX11_checkSum_4 ⟨by decide, by decide⟩ ?_
  refine wp_istore_n [1, 2, 3, 0] (ls' := [(0, jR a0), (1, jI a1), (2, jI (hA h a0 0)), (3, jI 1)]) dX11_checkSum_5 (by decide) rfl ?_
  exact k
theorem bX11_checkSum_6 {d : Nat} {h : jH} {Q : jO → jH → Prop} {a0 : Nat} {a1 : Int} {a2 : Int} {a3 : Int} (k : jOK h → j32 a1 → j32 a2 → j32 a3 → ((a1 ≤ a3 → 0 ≤ a2 ∧ Q (.inl (some (jI (a2 % 103)))) h) ∧ (¬ (a1 ≤ a3) → hK h a0 = 10 ∧ 0 ≤ a3 ∧ a3 < hN h a0 ∧ (j32 (hA h a0 a3) → j32 (a3 * (hA h a0 a3)) ∧ j32 (a2 + (a3 * (hA h a0 a3))) ∧ j32 (a3 + 1) ∧ jWp d mX11_checkSum 6 [(0, jR a0), (1, jI a1), (2, jI (a2 + (a3 * (hA h a0 a3)))), (3, jI (a3 + 1))] [] h Q)))) : jWp d mX11_checkSum 6 [(0, jR a0), (1, jI a1), (2, jI a2), (3, jI a3)] [] h Q := by
  refine jw_ok (fun ok q => ?_)
  replace k := k ok (q _ (.tail _ (.head _))) (q _ (.tail _ (.tail _ (.head _)))) (q _ (.tail _ (.tail _ (.tail _ (.head _)))))
  refine wp_iload_n 3 dX11_checkSum_6 rfl ?_
  refine wp_iload_n 1 dX11_checkSum_7 rfl ?_
  refine wp_icmp_ge 25 dX11_checkSum_8 rfl (fun q => ?_) (fun q => ?_)
  · replace k := k.1 q
    refine wp_iload_n 2 dX11_checkSum_25 rfl ?_
    refine wp_bipush dX11_checkSum_26 ⟨by decide, by decide⟩ ?_
    have c1 := k.1
    replace k := k.2
    refine wp_irem dX11_checkSum_28 c1 (by decide) ?_
    exact wp_iret dX11_checkSum_29 rfl k
  · replace k := k.2 q
    refine wp_iload_n 2 dX11_checkSum_11 rfl ?_
    refine wp_iload_n 3 dX11_checkSum_12 rfl ?_
    refine wp_aload_n 0 dX11_checkSum_13 rfl ?_
    refine wp_iload_n 3 dX11_checkSum_14 rfl ?_
    have c2 := k.1
    replace k := k.2
    have c3 := k.1
    replace k := k.2
    have c4 := k.1
    replace k := k.2
    refine wp_iaload dX11_checkSum_15 c2 c3 c4 (fun q => ?_)
    have f5 := q
    replace k := k q
    have c6 := k.1
    replace k := k.2
    refine wp_imul dX11_checkSum_16 c6 ?_
    have c7 := k.1
    replace k := k.2
    refine wp_iadd dX11_checkSum_17 c7 ?_
    refine wp_istore_n [1, 2, 0, 3] (ls' := [(0, jR a0), (1, jI a1), (2, jI (a2 + (a3 * (hA h a0 a3)))), (3, jI a3)]) dX11_checkSum_18 (by decide) rfl ?_
    have c8 := k.1
    replace k := k.2
    refine wp_iinc 3 [1, 2, 3, 0] (ls' := [(0, jR a0), (1, jI a1), (2, jI (a2 + (a3 * (hA h a0 a3)))), (3, jI (a3 + 1))]) dX11_checkSum_19 rfl c8 ⟨by decide, by decide⟩ (by decide) rfl ?_
    refine wp_goto 6 dX11_checkSum_22 rfl ?_
    exact k
theorem bX11_symbol {d : Nat} {h : jH} {Q : jO → jH → Prop} {a0 : Nat} {a1 : Int} (k : jOK h → j32 a1 → hK h a0 = 9 ∧ jCall d mX11_isOut [jR a0, jI a1] (sI h 812 a0 0) (fun o h7 => ∃ v7, o = .inl (some (jI v7)) ∧ ((v7 = 0 → hK h7 a0 = 9 ∧ jCall d mX11_fits [jR a0, jI a1, jI 48] h7 (fun o h19 => ∃ v19, o = .inl (some (jI v19)) ∧ hK h19 a0 = 9 ∧ (j32 (hI h19 829 a0) → (((hI h19 829 a0) ≠ 0 → j32 (a1 + (hI h19 829 a0)) ∧ jCall d mX11_stringOf [jR a0, jI a1, jI (a1 + (hI h19 829 a0))] h19 (fun o h39 => o = .inl none ∧ hK h39 a0 = 9 ∧ jCall d mX11_fewest [jR a0, jI v19] h39 (fun o h44 => o = .inl none ∧ hK h44 a0 = 9 ∧ hK h44 (hR h44 839 a0) = 10 ∧ 0 ≤ (1 : Int) ∧ 1 < hN h44 (hR h44 839 a0) ∧ (j32 (hA h44 (hR h44 839 a0) 1) → 0 ≤ (0 : Int) ∧ 0 < hN h44 (hR h44 839 a0) ∧ (j32 (hA h44 (hR h44 839 a0) 0) → (((hA h44 (hR h44 839 a0) 0) ≤ (hA h44 (hR h44 839 a0) 1) → j32 (104 + 0) ∧ hK h44 (hR h44 837 a0) = 10 ∧ 0 < hN h44 (hR h44 837 a0) ∧ 1 < hN h44 (hR h44 837 a0) ∧ jWp (d + 1) mX11_symbol 96 [(0, jR a0), (2, jI v19), (3, jI (hI h19 829 a0)), (4, jI 0), (5, jI 0)] [] (sI (sA (sA h44 (hR h44 837 a0) 0 (104 + 0)) (hR h44 837 a0) 1 102) 838 a0 2) Q) ∧ (¬ ((hA h44 (hR h44 839 a0) 0) ≤ (hA h44 (hR h44 839 a0) 1)) → j32 (104 + 1) ∧ hK h44 (hR h44 837 a0) = 10 ∧ 0 < hN h44 (hR h44 837 a0) ∧ 1 < hN h44 (hR h44 837 a0) ∧ jWp (d + 1) mX11_symbol 96 [(0, jR a0), (2, jI v19), (3, jI (hI h19 829 a0)), (4, jI 1), (5, jI 0)] [] (sI (sA (sA h44 (hR h44 837 a0) 0 (104 + 1)) (hR h44 837 a0) 1 102) 838 a0 2) Q))))))) ∧ ((hI h19 829 a0) = 0 → Q (.inl (some (jI (-1)))) h19))))) ∧ (¬ (v7 = 0) → Q (.inl (some (jI (-1)))) h7)))) : jCall (d + 1) mX11_symbol [jR a0, jI a1] h Q := by
  refine jCall_of plX11 (Nat.le_of_ble_eq_true rfl) ?_
  show jWp (d + 1) mX11_symbol 0 [(0, jR a0), (1, jI a1)] [] h Q
  refine jw_ok (fun ok q => ?_)
  replace k := k ok (q _ (.tail _ (.head _)))
  refine wp_aload_n 0 dX11_symbol_0 rfl ?_
  refine wp_iconst dX11_symbol_1 ⟨by decide, by decide⟩ ?_
  have c1 := k.1
  replace k := k.2
  refine wp_putI (ci := 8) (j := 12) rfl (by decide) gX11_48 dX11_symbol_2 c1 (Or.inl rfl) rfl ?_
  refine wp_aload_n 0 dX11_symbol_5 rfl ?_
  refine wp_iload_n 1 dX11_symbol_6 rfl ?_
  refine wp_callV (ci := 8) (y' := mX11_isOut) (st := []) [jI a1] rfl rfl rfl fX11_isOut kX11_397 nX11_isOut dX11_symbol_7 (Nat.le_of_ble_eq_true rfl) c1 ?_
  refine jCall.mono k (fun o h7 k => ?_)
  obtain ⟨v7, e, k⟩ := k
  subst e
  show jWp (d + 1) mX11_symbol 10 [(0, jR a0), (1, jI a1)] [jI v7] h7 Q
  refine wp_if_eq 15 dX11_symbol_10 rfl (fun q => ?_) (fun q => ?_)
  · replace k := k.1 q
    refine wp_aload_n 0 dX11_symbol_15 rfl ?_
    refine wp_iload_n 1 dX11_symbol_16 rfl ?_
    refine wp_bipush dX11_symbol_17 ⟨by decide, by decide⟩ ?_
    have c2 := k.1
    replace k := k.2
    refine wp_callV (ci := 8) (y' := mX11_fits) (st := []) [jI a1, jI 48] rfl rfl rfl fX11_fits kX11_391 nX11_fits dX11_symbol_19 (Nat.le_of_ble_eq_true rfl) c2 ?_
    refine jCall.mono k (fun o h19 k => ?_)
    obtain ⟨v19, e, k⟩ := k
    subst e
    show jWp (d + 1) mX11_symbol 22 [(0, jR a0), (1, jI a1)] [jI v19] h19 Q
    refine wp_istore_n [1, 2, 0] (ls' := [(0, jR a0), (1, jI a1), (2, jI v19)]) dX11_symbol_22 (by decide) rfl ?_
    refine wp_aload_n 0 dX11_symbol_23 rfl ?_
    have c3 := k.1
    replace k := k.2
    refine wp_getI (ci := 8) (j := 29) rfl (by decide) gX11_101 dX11_symbol_24 c3 rfl (fun q => ?_)
    have f4 := q
    replace k := k q
    refine wp_istore_n [1, 2, 3, 0] (ls' := [(0, jR a0), (1, jI a1), (2, jI v19), (3, jI (hI h19 829 a0))]) dX11_symbol_27 (by decide) rfl ?_
    refine wp_iload_n 3 dX11_symbol_28 rfl ?_
    refine wp_if_ne 34 dX11_symbol_29 rfl (fun q => ?_) (fun q => ?_)
    · replace k := k.1 q
      refine wp_aload_n 0 dX11_symbol_34 rfl ?_
      refine wp_iload_n 1 dX11_symbol_35 rfl ?_
      refine wp_iload_n 1 dX11_symbol_36 rfl ?_
      refine wp_iload_n 3 dX11_symbol_37 rfl ?_
      have c5 := k.1
      replace k := k.2
      refine wp_iadd dX11_symbol_38 c5 ?_
      refine wp_callV (ci := 8) (y' := mX11_stringOf) (st := []) [jI a1, jI (a1 + (hI h19 829 a0))] rfl rfl rfl fX11_stringOf kX11_430 nX11_stringOf dX11_symbol_39 (Nat.le_of_ble_eq_true rfl) c3 ?_
      refine jCall.mono k (fun o h39 k => ?_)
      obtain ⟨e, k⟩ := k
      subst e
      show jWp (d + 1) mX11_symbol 42 [(0, jR a0), (1, jI a1), (2, jI v19), (3, jI (hI h19 829 a0))] [] h39 Q
      refine wp_aload_n 0 dX11_symbol_42 rfl ?_
      refine wp_iload_n 2 dX11_symbol_43 rfl ?_
      have c6 := k.1
      replace k := k.2
      refine wp_callV (ci := 8) (y' := mX11_fewest) (st := []) [jI v19] rfl rfl rfl fX11_fewest kX11_434 nX11_fewest dX11_symbol_44 (Nat.le_of_ble_eq_true rfl) c6 ?_
      refine jCall.mono k (fun o h44 k => ?_)
      obtain ⟨e, k⟩ := k
      subst e
      show jWp (d + 1) mX11_symbol 47 [(0, jR a0), (1, jI a1), (2, jI v19), (3, jI (hI h19 829 a0))] [] h44 Q
      refine wp_aload_n 0 dX11_symbol_47 rfl ?_
      have c7 := k.1
      replace k := k.2
      refine wp_getR (ci := 8) (j := 39) rfl (by decide) gX11_234 dX11_symbol_48 c7 rfl ?_
      refine wp_iconst dX11_symbol_51 ⟨by decide, by decide⟩ ?_
      have c8 := k.1
      replace k := k.2
      have c9 := k.1
      replace k := k.2
      have c10 := k.1
      replace k := k.2
      refine wp_iaload dX11_symbol_52 c8 c9 c10 (fun q => ?_)
      have f11 := q
      replace k := k q
      refine wp_aload_n 0 dX11_symbol_53 rfl ?_
      refine wp_getR (ci := 8) (j := 39) rfl (by decide) gX11_234 dX11_symbol_54 c7 rfl ?_
      refine wp_iconst dX11_symbol_57 ⟨by decide, by decide⟩ ?_
      have c12 := k.1
      replace k := k.2
      have c13 := k.1
      replace k := k.2
      refine wp_iaload dX11_symbol_58 c8 c12 c13 (fun q => ?_)
      have f14 := q
      replace k := k q
      refine wp_icmp_ge 66 dX11_symbol_59 rfl (fun q => ?_) (fun q => ?_)
      · replace k := k.1 q
        refine wp_iconst dX11_symbol_66 ⟨by decide, by decide⟩ ?_
        refine wp_istore [1, 3, 4, 0] (ls' := [(0, jR a0), (2, jI v19), (3, jI (hI h19 829 a0)), (4, jI 0)]) dX11_symbol_67 (by decide) rfl ?_
        refine wp_aload_n 0 dX11_symbol_69 rfl ?_
        refine wp_getR (ci := 8) (j := 37) rfl (by decide) gX11_228 dX11_symbol_70 c7 rfl ?_
        refine wp_iconst dX11_symbol_73 ⟨by decide, by decide⟩ ?_
        refine wp_bipush dX11_symbol_74 ⟨by decide, by decide⟩ ?_
        refine wp_iload 3 dX11_symbol_76 rfl ?_
        have c15 := k.1
        replace k := k.2
        refine wp_iadd dX11_symbol_78 c15 ?_
        have c16 := k.1
        replace k := k.2
        have c17 := k.1
        replace k := k.2
        refine wp_iastore dX11_symbol_79 c16 c12 c17 ?_
        refine wp_aload_n 0 dX11_symbol_80 rfl ?_
        refine wp_getR (ci := 8) (j := 37) rfl (by decide) gX11_228 dX11_symbol_81 c7 rfl ?_
        refine wp_iconst dX11_symbol_84 ⟨by decide, by decide⟩ ?_
        refine wp_bipush dX11_symbol_85 ⟨by decide, by decide⟩ ?_
        have c18 := k.1
        replace k := k.2
        refine wp_iastore dX11_symbol_87 c16 c9 c18 ?_
        refine wp_aload_n 0 dX11_symbol_88 rfl ?_
        refine wp_iconst dX11_symbol_89 ⟨by decide, by decide⟩ ?_
        refine wp_putI (ci := 8) (j := 38) rfl (by decide) gX11_231 dX11_symbol_90 c7 (Or.inl rfl) rfl ?_
        refine wp_iconst dX11_symbol_93 ⟨by decide, by decide⟩ ?_
        refine wp_istore [1, 2, 3, 4, 0] (ls' := [(0, jR a0), (2, jI v19), (3, jI (hI h19 829 a0)), (4, jI 0), (5, jI 0)]) dX11_symbol_94 (by decide) rfl ?_
        exact k
      · replace k := k.2 q
        refine wp_iconst dX11_symbol_62 ⟨by decide, by decide⟩ ?_
        refine wp_goto 67 dX11_symbol_63 rfl ?_
        refine wp_istore [1, 3, 4, 0] (ls' := [(0, jR a0), (2, jI v19), (3, jI (hI h19 829 a0)), (4, jI 1)]) dX11_symbol_67 (by decide) rfl ?_
        refine wp_aload_n 0 dX11_symbol_69 rfl ?_
        refine wp_getR (ci := 8) (j := 37) rfl (by decide) gX11_228 dX11_symbol_70 c7 rfl ?_
        refine wp_iconst dX11_symbol_73 ⟨by decide, by decide⟩ ?_
        refine wp_bipush dX11_symbol_74 ⟨by decide, by decide⟩ ?_
        refine wp_iload 3 dX11_symbol_76 rfl ?_
        have c19 := k.1
        replace k := k.2
        refine wp_iadd dX11_symbol_78 c19 ?_
        have c20 := k.1
        replace k := k.2
        have c21 := k.1
        replace k := k.2
        refine wp_iastore dX11_symbol_79 c20 c12 c21 ?_
        refine wp_aload_n 0 dX11_symbol_80 rfl ?_
        refine wp_getR (ci := 8) (j := 37) rfl (by decide) gX11_228 dX11_symbol_81 c7 rfl ?_
        refine wp_iconst dX11_symbol_84 ⟨by decide, by decide⟩ ?_
        refine wp_bipush dX11_symbol_85 ⟨by decide, by decide⟩ ?_
        have c22 := k.1
        replace k := k.2
        refine wp_iastore dX11_symbol_87 c20 c9 c22 ?_
        refine wp_aload_n 0 dX11_symbol_88 rfl ?_
        refine wp_iconst dX11_symbol_89 ⟨by decide, by decide⟩ ?_
        refine wp_putI (ci := 8) (j := 38) rfl (by decide) gX11_231 dX11_symbol_90 c7 (Or.inl rfl) rfl ?_
        refine wp_iconst dX11_symbol_93 ⟨by decide, by decide⟩ ?_
        refine wp_istore [1, 2, 3, 4, 0] (ls' := [(0, jR a0), (2, jI v19), (3, jI (hI h19 829 a0)), (4, jI 1), (5, jI 0)]) dX11_symbol_94 (by decide) rfl ?_
        exact k
    · replace k := k.2 q
      refine wp_iconst dX11_symbol_32 ⟨by decide, by decide⟩ ?_
      exact wp_iret dX11_symbol_33 rfl k
  · replace k := k.2 q
    refine wp_iconst dX11_symbol_13 ⟨by decide, by decide⟩ ?_
    exact wp_iret dX11_symbol_14 rfl k
theorem bX11_symbol_96 {d : Nat} {h : jH} {Q : jO → jH → Prop} {a0 : Nat} {a2 : Int} {a3 : Int} {a4 : Int} {a5 : Int} (k : jOK h → j32 a2 → j32 a3 → j32 a4 → j32 a5 → ((a2 ≤ a5 → hK h a0 = 9 ∧ (j32 (hI h 838 a0) → jCall d mX11_checkSum [jR (hR h 837 a0), jI (hI h 838 a0)] h (fun o h216 => ∃ v216, o = .inl (some (jI v216)) ∧ hK h216 (hR h 837 a0) = 10 ∧ 0 ≤ (hI h 838 a0) ∧ (hI h 838 a0) < hN h216 (hR h 837 a0) ∧ hK h216 a0 = 9 ∧ (j32 (hI h216 838 a0) → j32 ((hI h216 838 a0) + 1) ∧ hK h216 (hR h216 837 a0) = 10 ∧ 0 ≤ ((hI h216 838 a0) + 1) ∧ ((hI h216 838 a0) + 1) < hN h216 (hR h216 837 a0) ∧ j32 ((hI h216 838 a0) + 2) ∧ Q (.inl (some (jI a3))) (sI (sA (sA h216 (hR h 837 a0) (hI h 838 a0) v216) (hR h216 837 a0) ((hI h216 838 a0) + 1) 106) 838 a0 ((hI h216 838 a0) + 2)))))) ∧ (¬ (a2 ≤ a5) → hK h a0 = 9 ∧ j32 (2 * a5) ∧ j32 ((2 * a5) + a4) ∧ hK h (hR h 840 a0) = 10 ∧ 0 ≤ ((2 * a5) + a4) ∧ ((2 * a5) + a4) < hN h (hR h 840 a0) ∧ (j32 (hA h (hR h 840 a0) ((2 * a5) + a4)) → (j32 (hI h 838 a0) → hK h (hR h 837 a0) = 10 ∧ 0 ≤ (hI h 838 a0) ∧ (hI h 838 a0) < hN h (hR h 837 a0) ∧ j32 ((hI h 838 a0) + 1) ∧ ((a4 ≠ 0 → ((a4 ≠ 1 → jWp (d + 1) mX11_symbol 174 [(0, jR a0), (2, jI a2), (3, jI a3), (4, jI a4), (5, jI a5), (6, jI (hA h (hR h 840 a0) ((2 * a5) + a4)))] [] (sI (sA h (hR h 837 a0) (hI h 838 a0) (hA h (hR h 840 a0) ((2 * a5) + a4))) 838 a0 ((hI h 838 a0) + 1)) Q) ∧ (a4 = 1 → (((hA h (hR h 840 a0) ((2 * a5) + a4)) ≠ 100 → jWp (d + 1) mX11_symbol 174 [(0, jR a0), (2, jI a2), (3, jI a3), (4, jI a4), (5, jI a5), (6, jI (hA h (hR h 840 a0) ((2 * a5) + a4)))] [] (sI (sA h (hR h 837 a0) (hI h 838 a0) (hA h (hR h 840 a0) ((2 * a5) + a4))) 838 a0 ((hI h 838 a0) + 1)) Q) ∧ ((hA h (hR h 840 a0) ((2 * a5) + a4)) = 100 → jWp (d + 1) mX11_symbol 197 [(0, jR a0), (2, jI a2), (3, jI a3), (4, jI 0), (5, jI a5)] [] (sI (sA h (hR h 837 a0) (hI h 838 a0) (hA h (hR h 840 a0) ((2 * a5) + a4))) 838 a0 ((hI h 838 a0) + 1)) Q))))) ∧ (a4 = 0 → (((hA h (hR h 840 a0) ((2 * a5) + a4)) ≠ 99 → ((a4 ≠ 1 → jWp (d + 1) mX11_symbol 174 [(0, jR a0), (2, jI a2), (3, jI a3), (4, jI a4), (5, jI a5), (6, jI (hA h (hR h 840 a0) ((2 * a5) + a4)))] [] (sI (sA h (hR h 837 a0) (hI h 838 a0) (hA h (hR h 840 a0) ((2 * a5) + a4))) 838 a0 ((hI h 838 a0) + 1)) Q) ∧ (a4 = 1 → (((hA h (hR h 840 a0) ((2 * a5) + a4)) ≠ 100 → jWp (d + 1) mX11_symbol 174 [(0, jR a0), (2, jI a2), (3, jI a3), (4, jI a4), (5, jI a5), (6, jI (hA h (hR h 840 a0) ((2 * a5) + a4)))] [] (sI (sA h (hR h 837 a0) (hI h 838 a0) (hA h (hR h 840 a0) ((2 * a5) + a4))) 838 a0 ((hI h 838 a0) + 1)) Q) ∧ ((hA h (hR h 840 a0) ((2 * a5) + a4)) = 100 → jWp (d + 1) mX11_symbol 197 [(0, jR a0), (2, jI a2), (3, jI a3), (4, jI 0), (5, jI a5)] [] (sI (sA h (hR h 837 a0) (hI h 838 a0) (hA h (hR h 840 a0) ((2 * a5) + a4))) 838 a0 ((hI h 838 a0) + 1)) Q))))) ∧ ((hA h (hR h 840 a0) ((2 * a5) + a4)) = 99 → jWp (d + 1) mX11_symbol 197 [(0, jR a0), (2, jI a2), (3, jI a3), (4, jI 1), (5, jI a5)] [] (sI (sA h (hR h 837 a0) (hI h 838 a0) (hA h (hR h 840 a0) ((2 * a5) + a4))) 838 a0 ((hI h 838 a0) + 1)) Q))))))))) : jWp (d + 1) mX11_symbol 96 [(0, jR a0), (2, jI a2), (3, jI a3), (4, jI a4), (5, jI a5)] [] h Q := by
  refine jw_ok (fun ok q => ?_)
  replace k := k ok (q _ (.tail _ (.head _))) (q _ (.tail _ (.tail _ (.head _)))) (q _ (.tail _ (.tail _ (.tail _ (.head _))))) (q _ (.tail _ (.tail _ (.tail _ (.tail _ (.head _))))))
  refine wp_iload 4 dX11_symbol_96 rfl ?_
  refine wp_iload_n 1 dX11_symbol_98 rfl ?_
  refine wp_icmp_ge 200 dX11_symbol_99 rfl (fun q => ?_) (fun q => ?_)
  · replace k := k.1 q
    refine wp_aload_n 0 dX11_symbol_200 rfl ?_
    have c1 := k.1
    replace k := k.2
    refine wp_getR (ci := 8) (j := 37) rfl (by decide) gX11_228 dX11_symbol_201 c1 rfl ?_
    refine wp_aload_n 0 dX11_symbol_204 rfl ?_
    refine wp_getI (ci := 8) (j := 38) rfl (by decide) gX11_231 dX11_symbol_205 c1 rfl (fun q => ?_)
    have f2 := q
    replace k := k q
    refine wp_aload_n 0 dX11_symbol_208 rfl ?_
    refine wp_getR (ci := 8) (j := 37) rfl (by decide) gX11_228 dX11_symbol_209 c1 rfl ?_
    refine wp_aload_n 0 dX11_symbol_212 rfl ?_
    refine wp_getI (ci := 8) (j := 38) rfl (by decide) gX11_231 dX11_symbol_213 c1 rfl (fun q => ?_)
    refine wp_callS (y' := mX11_checkSum) (st := [jI (hI h 838 a0), jR (hR h 837 a0)]) [jR (hR h 837 a0), jI (hI h 838 a0)] rfl fX11_checkSum kX11_437 nX11_checkSum dX11_symbol_216 (Nat.le_of_ble_eq_true rfl) ?_
    refine jCall.mono k (fun o h216 k => ?_)
    obtain ⟨v216, e, k⟩ := k
    subst e
    show jWp (d + 1) mX11_symbol 219 [(0, jR a0), (2, jI a2), (3, jI a3), (4, jI a4), (5, jI a5)] [jI v216, jI (hI h 838 a0), jR (hR h 837 a0)] h216 Q
    have c3 := k.1
    replace k := k.2
    have c4 := k.1
    replace k := k.2
    have c5 := k.1
    replace k := k.2
    refine wp_iastore dX11_symbol_219 c3 c4 c5 ?_
    refine wp_aload_n 0 dX11_symbol_220 rfl ?_
    have c6 := k.1
    replace k := k.2
    refine wp_getR (ci := 8) (j := 37) rfl (by decide) gX11_228 dX11_symbol_221 c6 rfl ?_
    refine wp_aload_n 0 dX11_symbol_224 rfl ?_
    refine wp_getI (ci := 8) (j := 38) rfl (by decide) gX11_231 dX11_symbol_225 c6 rfl (fun q => ?_)
    have f7 := q
    replace k := k q
    refine wp_iconst dX11_symbol_228 ⟨by decide, by decide⟩ ?_
    have c8 := k.1
    replace k := k.2
    refine wp_iadd dX11_symbol_229 c8 ?_
    refine wp_bipush dX11_symbol_230 ⟨by decide, by decide⟩ ?_
    have c9 := k.1
    replace k := k.2
    have c10 := k.1
    replace k := k.2
    have c11 := k.1
    replace k := k.2
    refine wp_iastore dX11_symbol_232 c9 c10 c11 ?_
    refine wp_aload_n 0 dX11_symbol_233 rfl ?_
    refine wp_dup dX11_symbol_234 rfl ?_
    refine wp_getI (ci := 8) (j := 38) rfl (by decide) gX11_231 dX11_symbol_235 c6 rfl (fun q => ?_)
    refine wp_iconst dX11_symbol_238 ⟨by decide, by decide⟩ ?_
    have c12 := k.1
    replace k := k.2
    refine wp_iadd dX11_symbol_239 c12 ?_
    refine wp_putI (ci := 8) (j := 38) rfl (by decide) gX11_231 dX11_symbol_240 c6 (Or.inl rfl) rfl ?_
    refine wp_iload_n 2 dX11_symbol_243 rfl ?_
    exact wp_iret dX11_symbol_244 rfl k
  · replace k := k.2 q
    refine wp_aload_n 0 dX11_symbol_102 rfl ?_
    have c13 := k.1
    replace k := k.2
    refine wp_getR (ci := 8) (j := 40) rfl (by decide) gX11_237 dX11_symbol_103 c13 rfl ?_
    refine wp_iconst dX11_symbol_106 ⟨by decide, by decide⟩ ?_
    refine wp_iload 4 dX11_symbol_107 rfl ?_
    have c14 := k.1
    replace k := k.2
    refine wp_imul dX11_symbol_109 c14 ?_
    refine wp_iload 3 dX11_symbol_110 rfl ?_
    have c15 := k.1
    replace k := k.2
    refine wp_iadd dX11_symbol_112 c15 ?_
    have c16 := k.1
    replace k := k.2
    have c17 := k.1
    replace k := k.2
    have c18 := k.1
    replace k := k.2
    refine wp_iaload dX11_symbol_113 c16 c17 c18 (fun q => ?_)
    have f19 := q
    replace k := k q
    refine wp_istore [1, 2, 3, 4, 5, 0] (ls' := [(0, jR a0), (2, jI a2), (3, jI a3), (4, jI a4), (5, jI a5), (6, jI (hA h (hR h 840 a0) ((2 * a5) + a4)))]) dX11_symbol_114 (by decide) rfl ?_
    refine wp_aload_n 0 dX11_symbol_116 rfl ?_
    refine wp_getR (ci := 8) (j := 37) rfl (by decide) gX11_228 dX11_symbol_117 c13 rfl ?_
    refine wp_aload_n 0 dX11_symbol_120 rfl ?_
    refine wp_getI (ci := 8) (j := 38) rfl (by decide) gX11_231 dX11_symbol_121 c13 rfl (fun q => ?_)
    have f20 := q
    replace k := k q
    refine wp_iload 5 dX11_symbol_124 rfl ?_
    have c21 := k.1
    replace k := k.2
    have c22 := k.1
    replace k := k.2
    have c23 := k.1
    replace k := k.2
    refine wp_iastore dX11_symbol_126 c21 c22 c23 ?_
    refine wp_aload_n 0 dX11_symbol_127 rfl ?_
    refine wp_dup dX11_symbol_128 rfl ?_
    refine wp_getI (ci := 8) (j := 38) rfl (by decide) gX11_231 dX11_symbol_129 c13 rfl (fun q => ?_)
    refine wp_iconst dX11_symbol_132 ⟨by decide, by decide⟩ ?_
    have c24 := k.1
    replace k := k.2
    refine wp_iadd dX11_symbol_133 c24 ?_
    refine wp_putI (ci := 8) (j := 38) rfl (by decide) gX11_231 dX11_symbol_134 c13 (Or.inl rfl) rfl ?_
    refine wp_iload 3 dX11_symbol_137 rfl ?_
    refine wp_if_ne 155 dX11_symbol_139 rfl (fun q => ?_) (fun q => ?_)
    · replace k := k.1 q
      refine wp_iload 3 dX11_symbol_155 rfl ?_
      refine wp_iconst dX11_symbol_157 ⟨by decide, by decide⟩ ?_
      refine wp_icmp_ne 174 dX11_symbol_158 rfl (fun q => ?_) (fun q => ?_)
      · replace k := k.1 q
        exact k
      · replace k := k.2 q
        refine wp_iload 5 dX11_symbol_161 rfl ?_
        refine wp_bipush dX11_symbol_163 ⟨by decide, by decide⟩ ?_
        refine wp_icmp_ne 174 dX11_symbol_165 rfl (fun q => ?_) (fun q => ?_)
        · replace k := k.1 q
          exact k
        · replace k := k.2 q
          refine wp_iconst dX11_symbol_168 ⟨by decide, by decide⟩ ?_
          refine wp_istore [1, 2, 3, 0, 4] (ls' := [(0, jR a0), (2, jI a2), (3, jI a3), (4, jI 0), (5, jI a5)]) dX11_symbol_169 (by decide) rfl ?_
          refine wp_goto 197 dX11_symbol_171 rfl ?_
          exact k
    · replace k := k.2 q
      refine wp_iload 5 dX11_symbol_142 rfl ?_
      refine wp_bipush dX11_symbol_144 ⟨by decide, by decide⟩ ?_
      refine wp_icmp_ne 155 dX11_symbol_146 rfl (fun q => ?_) (fun q => ?_)
      · replace k := k.1 q
        refine wp_iload 3 dX11_symbol_155 rfl ?_
        refine wp_iconst dX11_symbol_157 ⟨by decide, by decide⟩ ?_
        refine wp_icmp_ne 174 dX11_symbol_158 rfl (fun q => ?_) (fun q => ?_)
        · replace k := k.1 q
          exact k
        · replace k := k.2 q
          refine wp_iload 5 dX11_symbol_161 rfl ?_
          refine wp_bipush dX11_symbol_163 ⟨by decide, by decide⟩ ?_
          refine wp_icmp_ne 174 dX11_symbol_165 rfl (fun q => ?_) (fun q => ?_)
          · replace k := k.1 q
            exact k
          · replace k := k.2 q
            refine wp_iconst dX11_symbol_168 ⟨by decide, by decide⟩ ?_
            refine wp_istore [1, 2, 3, 0, 4] (ls' := [(0, jR a0), (2, jI a2), (3, jI a3), (4, jI 0), (5, jI a5)]) dX11_symbol_169 (by decide) rfl ?_
            refine wp_goto 197 dX11_symbol_171 rfl ?_
            exact k
      · replace k := k.2 q
        refine wp_iconst dX11_symbol_149 ⟨by decide, by decide⟩ ?_
        refine wp_istore [1, 2, 3, 0, 4] (ls' := [(0, jR a0), (2, jI a2), (3, jI a3), (4, jI 1), (5, jI a5)]) dX11_symbol_150 (by decide) rfl ?_
        refine wp_goto 197 dX11_symbol_152 rfl ?_
        exact k
theorem bX11_symbol_174 {d : Nat} {h : jH} {Q : jO → jH → Prop} {a0 : Nat} {a2 : Int} {a3 : Int} {a4 : Int} {a5 : Int} {a6 : Int} (k : jOK h → j32 a2 → j32 a3 → j32 a4 → j32 a5 → j32 a6 → ((a4 ≠ 1 → jWp (d + 1) mX11_symbol 193 [(0, jR a0), (2, jI a2), (3, jI a3), (4, jI a4)] [jI a5] h Q) ∧ (a4 = 1 → ((a6 = 102 → jWp (d + 1) mX11_symbol 193 [(0, jR a0), (2, jI a2), (3, jI a3), (4, jI a4)] [jI a5] h Q) ∧ (¬ (a6 = 102) → jWp (d + 1) mX11_symbol 194 [(0, jR a0), (2, jI a2), (3, jI a3), (4, jI a4)] [jI 2, jI a5] h Q))))) : jWp (d + 1) mX11_symbol 174 [(0, jR a0), (2, jI a2), (3, jI a3), (4, jI a4), (5, jI a5), (6, jI a6)] [] h Q := by
  refine jw_ok (fun ok q => ?_)
  replace k := k ok (q _ (.tail _ (.head _))) (q _ (.tail _ (.tail _ (.head _)))) (q _ (.tail _ (.tail _ (.tail _ (.head _))))) (q _ (.tail _ (.tail _ (.tail _ (.tail _ (.head _)))))) (q _ (.tail _ (.tail _ (.tail _ (.tail _ (.tail _ (.head _)))))))
  refine wp_iload 4 dX11_symbol_174 rfl ?_
  refine wp_iload 3 dX11_symbol_176 rfl ?_
  refine wp_iconst dX11_symbol_178 ⟨by decide, by decide⟩ ?_
  refine wp_icmp_ne 193 dX11_symbol_179 rfl (fun q => ?_) (fun q => ?_)
  · replace k := k.1 q
    refine wp_sub [0, 1, 2, 3] (ls' := [(0, jR a0), (2, jI a2), (3, jI a3), (4, jI a4)]) rfl ?_
    exact k
  · replace k := k.2 q
    refine wp_iload 5 dX11_symbol_182 rfl ?_
    refine wp_bipush dX11_symbol_184 ⟨by decide, by decide⟩ ?_
    refine wp_icmp_eq 193 dX11_symbol_186 rfl (fun q => ?_) (fun q => ?_)
    · replace k := k.1 q
      refine wp_sub [0, 1, 2, 3] (ls' := [(0, jR a0), (2, jI a2), (3, jI a3), (4, jI a4)]) rfl ?_
      exact k
    · replace k := k.2 q
      refine wp_iconst dX11_symbol_189 ⟨by decide, by decide⟩ ?_
      refine wp_goto 194 dX11_symbol_190 rfl ?_
      refine wp_sub [0, 1, 2, 3] (ls' := [(0, jR a0), (2, jI a2), (3, jI a3), (4, jI a4)]) rfl ?_
      exact k
theorem bX11_symbol_197 {d : Nat} {h : jH} {Q : jO → jH → Prop} {a0 : Nat} {a2 : Int} {a3 : Int} {a4 : Int} {a5 : Int} (k : jOK h → j32 a2 → j32 a3 → j32 a4 → j32 a5 → jWp (d + 1) mX11_symbol 96 [(0, jR a0), (2, jI a2), (3, jI a3), (4, jI a4), (5, jI a5)] [] h Q) : jWp (d + 1) mX11_symbol 197 [(0, jR a0), (2, jI a2), (3, jI a3), (4, jI a4), (5, jI a5)] [] h Q := by
  refine jw_ok (fun ok q => ?_)
  replace k := k ok (q _ (.tail _ (.head _))) (q _ (.tail _ (.tail _ (.head _)))) (q _ (.tail _ (.tail _ (.tail _ (.head _))))) (q _ (.tail _ (.tail _ (.tail _ (.tail _ (.head _))))))
  refine wp_goto 96 dX11_symbol_197 rfl ?_
  exact k
theorem bX11_symbol_193 {d : Nat} {h : jH} {Q : jO → jH → Prop} {a0 : Nat} {a2 : Int} {a3 : Int} {a4 : Int} {s0 : Int} (k : jOK h → j32 a2 → j32 a3 → j32 a4 → jWp (d + 1) mX11_symbol 194 [(0, jR a0), (2, jI a2), (3, jI a3), (4, jI a4)] [jI 1, jI s0] h Q) : jWp (d + 1) mX11_symbol 193 [(0, jR a0), (2, jI a2), (3, jI a3), (4, jI a4)] [jI s0] h Q := by
  refine jw_ok (fun ok q => ?_)
  replace k := k ok (q _ (.tail _ (.head _))) (q _ (.tail _ (.tail _ (.head _)))) (q _ (.tail _ (.tail _ (.tail _ (.head _)))))
  refine wp_iconst dX11_symbol_193 ⟨by decide, by decide⟩ ?_
  exact k
theorem bX11_symbol_194 {d : Nat} {h : jH} {Q : jO → jH → Prop} {a0 : Nat} {a2 : Int} {a3 : Int} {a4 : Int} {s0 : Int} {s1 : Int} (k : jOK h → j32 a2 → j32 a3 → j32 a4 → j32 (s1 + s0) ∧ jWp (d + 1) mX11_symbol 197 [(0, jR a0), (2, jI a2), (3, jI a3), (4, jI a4), (5, jI (s1 + s0))] [] h Q) : jWp (d + 1) mX11_symbol 194 [(0, jR a0), (2, jI a2), (3, jI a3), (4, jI a4)] [jI s0, jI s1] h Q := by
  refine jw_ok (fun ok q => ?_)
  replace k := k ok (q _ (.tail _ (.head _))) (q _ (.tail _ (.tail _ (.head _)))) (q _ (.tail _ (.tail _ (.tail _ (.head _)))))
  have c1 := k.1
  replace k := k.2
  refine wp_iadd dX11_symbol_194 c1 ?_
  refine wp_istore [1, 2, 3, 4, 0] (ls' := [(0, jR a0), (2, jI a2), (3, jI a3), (4, jI a4), (5, jI (s1 + s0))]) dX11_symbol_195 (by decide) rfl ?_
  exact k
theorem bX11_stringOf {d : Nat} {h : jH} {Q : jO → jH → Prop} {a0 : Nat} {a1 : Int} {a2 : Int} (k : jOK h → j32 a1 → j32 a2 → jWp (d + 1) mX11_stringOf 5 [(0, jR a0), (1, jI a1), (2, jI a2), (3, jI 0), (4, jI a1)] [] h Q) : jCall (d + 1) mX11_stringOf [jR a0, jI a1, jI a2] h Q := by
  refine jCall_of plX11 (Nat.le_of_ble_eq_true rfl) ?_
  show jWp (d + 1) mX11_stringOf 0 [(0, jR a0), (1, jI a1), (2, jI a2)] [] h Q
  refine jw_ok (fun ok q => ?_)
  replace k := k ok (q _ (.tail _ (.head _))) (q _ (.tail _ (.tail _ (.head _))))
  refine wp_iconst dX11_stringOf_0 ⟨by decide, by decide⟩ ?_
  refine wp_istore_n [1, 2, 3, 0] (ls' := [(0, jR a0), (1, jI a1), (2, jI a2), (3, jI 0)]) dX11_stringOf_1 (by decide) rfl ?_
  refine wp_iload_n 1 dX11_stringOf_2 rfl ?_
  refine wp_istore [1, 2, 3, 4, 0] (ls' := [(0, jR a0), (1, jI a1), (2, jI a2), (3, jI 0), (4, jI a1)]) dX11_stringOf_3 (by decide) rfl ?_
  exact k
theorem bX11_stringOf_5 {d : Nat} {h : jH} {Q : jO → jH → Prop} {a0 : Nat} {a1 : Int} {a2 : Int} {a3 : Int} {a4 : Int} (k : jOK h → j32 a1 → j32 a2 → j32 a3 → j32 a4 → ((a2 ≤ a4 → Q (.inl none) h) ∧ (¬ (a2 ≤ a4) → hK h a0 = 9 ∧ hK h (hR h 814 a0) = 10 ∧ 0 ≤ a4 ∧ a4 < hN h (hR h 814 a0) ∧ (j32 (hA h (hR h 814 a0) a4) → ((a4 ≤ a1 → jWp (d + 1) mX11_stringOf 59 [(0, jR a0), (1, jI a1), (2, jI a2), (3, jI a3), (4, jI a4), (5, jI (hA h (hR h 814 a0) a4)), (6, jI 1), (7, jI 1)] [] h Q) ∧ (¬ (a4 ≤ a1) → j32 (a4 - 1) ∧ 0 ≤ (a4 - 1) ∧ (a4 - 1) < hN h (hR h 814 a0) ∧ (j32 (hA h (hR h 814 a0) (a4 - 1)) → jCall d mX11_isFixed [jR a0, jI (hA h (hR h 814 a0) (a4 - 1))] h (fun o h36 => ∃ v36, o = .inl (some (jI v36)) ∧ ((v36 ≠ 0 → jWp (d + 1) mX11_stringOf 59 [(0, jR a0), (1, jI a1), (2, jI a2), (3, jI a3), (4, jI a4), (5, jI (hA h (hR h 814 a0) a4)), (6, jI 1), (7, jI 1)] [] h36 Q) ∧ (v36 = 0 → hK h36 a0 = 9 ∧ hK h36 (hR h36 841 a0) = 11 ∧ 0 ≤ a3 ∧ a3 < hN h36 (hR h36 841 a0) ∧ j32 (a3 + 1) ∧ jWp (d + 1) mX11_stringOf 59 [(0, jR a0), (1, jI a1), (2, jI a2), (3, jI (a3 + 1)), (4, jI a4), (5, jI (hA h (hR h 814 a0) a4)), (6, jI 1), (7, jI 1)] [] (sA h36 (hR h36 841 a0) a3 29) Q)))))))))) : jWp (d + 1) mX11_stringOf 5 [(0, jR a0), (1, jI a1), (2, jI a2), (3, jI a3), (4, jI a4)] [] h Q := by
  refine jw_ok (fun ok q => ?_)
  replace k := k ok (q _ (.tail _ (.head _))) (q _ (.tail _ (.tail _ (.head _)))) (q _ (.tail _ (.tail _ (.tail _ (.head _))))) (q _ (.tail _ (.tail _ (.tail _ (.tail _ (.head _))))))
  refine wp_iload 4 dX11_stringOf_5 rfl ?_
  refine wp_iload_n 2 dX11_stringOf_7 rfl ?_
  refine wp_icmp_ge 174 dX11_stringOf_8 rfl (fun q => ?_) (fun q => ?_)
  · replace k := k.1 q
    exact wp_return dX11_stringOf_174 rfl k
  · replace k := k.2 q
    refine wp_aload_n 0 dX11_stringOf_11 rfl ?_
    have c1 := k.1
    replace k := k.2
    refine wp_getR (ci := 8) (j := 14) rfl (by decide) gX11_54 dX11_stringOf_12 c1 rfl ?_
    refine wp_iload 4 dX11_stringOf_15 rfl ?_
    have c2 := k.1
    replace k := k.2
    have c3 := k.1
    replace k := k.2
    have c4 := k.1
    replace k := k.2
    refine wp_iaload dX11_stringOf_17 c2 c3 c4 (fun q => ?_)
    have f5 := q
    replace k := k q
    refine wp_istore [1, 2, 3, 4, 5, 0] (ls' := [(0, jR a0), (1, jI a1), (2, jI a2), (3, jI a3), (4, jI a4), (5, jI (hA h (hR h 814 a0) a4))]) dX11_stringOf_18 (by decide) rfl ?_
    refine wp_iload 4 dX11_stringOf_20 rfl ?_
    refine wp_iload_n 1 dX11_stringOf_22 rfl ?_
    refine wp_icmp_le 53 dX11_stringOf_23 rfl (fun q => ?_) (fun q => ?_)
    · replace k := k.1 q
      refine wp_iconst dX11_stringOf_53 ⟨by decide, by decide⟩ ?_
      refine wp_istore [1, 2, 3, 4, 5, 6, 0] (ls' := [(0, jR a0), (1, jI a1), (2, jI a2), (3, jI a3), (4, jI a4), (5, jI (hA h (hR h 814 a0) a4)), (6, jI 1)]) dX11_stringOf_54 (by decide) rfl ?_
      refine wp_iconst dX11_stringOf_56 ⟨by decide, by decide⟩ ?_
      refine wp_istore [1, 2, 3, 4, 5, 6, 7, 0] (ls' := [(0, jR a0), (1, jI a1), (2, jI a2), (3, jI a3), (4, jI a4), (5, jI (hA h (hR h 814 a0) a4)), (6, jI 1), (7, jI 1)]) dX11_stringOf_57 (by decide) rfl ?_
      exact k
    · replace k := k.2 q
      refine wp_aload_n 0 dX11_stringOf_26 rfl ?_
      refine wp_aload_n 0 dX11_stringOf_27 rfl ?_
      refine wp_getR (ci := 8) (j := 14) rfl (by decide) gX11_54 dX11_stringOf_28 c1 rfl ?_
      refine wp_iload 4 dX11_stringOf_31 rfl ?_
      refine wp_iconst dX11_stringOf_33 ⟨by decide, by decide⟩ ?_
      have c6 := k.1
      replace k := k.2
      refine wp_isub dX11_stringOf_34 c6 ?_
      have c7 := k.1
      replace k := k.2
      have c8 := k.1
      replace k := k.2
      refine wp_iaload dX11_stringOf_35 c2 c7 c8 (fun q => ?_)
      have f9 := q
      replace k := k q
      refine wp_callV (ci := 8) (y' := mX11_isFixed) (st := []) [jI (hA h (hR h 814 a0) (a4 - 1))] rfl rfl rfl fX11_isFixed kX11_317 nX11_isFixed dX11_stringOf_36 (Nat.le_of_ble_eq_true rfl) c1 ?_
      refine jCall.mono k (fun o h36 k => ?_)
      obtain ⟨v36, e, k⟩ := k
      subst e
      show jWp (d + 1) mX11_stringOf 39 [(0, jR a0), (1, jI a1), (2, jI a2), (3, jI a3), (4, jI a4), (5, jI (hA h (hR h 814 a0) a4))] [jI v36] h36 Q
      refine wp_if_ne 53 dX11_stringOf_39 rfl (fun q => ?_) (fun q => ?_)
      · replace k := k.1 q
        refine wp_iconst dX11_stringOf_53 ⟨by decide, by decide⟩ ?_
        refine wp_istore [1, 2, 3, 4, 5, 6, 0] (ls' := [(0, jR a0), (1, jI a1), (2, jI a2), (3, jI a3), (4, jI a4), (5, jI (hA h (hR h 814 a0) a4)), (6, jI 1)]) dX11_stringOf_54 (by decide) rfl ?_
        refine wp_iconst dX11_stringOf_56 ⟨by decide, by decide⟩ ?_
        refine wp_istore [1, 2, 3, 4, 5, 6, 7, 0] (ls' := [(0, jR a0), (1, jI a1), (2, jI a2), (3, jI a3), (4, jI a4), (5, jI (hA h (hR h 814 a0) a4)), (6, jI 1), (7, jI 1)]) dX11_stringOf_57 (by decide) rfl ?_
        exact k
      · replace k := k.2 q
        refine wp_aload_n 0 dX11_stringOf_42 rfl ?_
        have c10 := k.1
        replace k := k.2
        refine wp_getR (ci := 8) (j := 41) rfl (by decide) gX11_240 dX11_stringOf_43 c10 rfl ?_
        refine wp_iload_n 3 dX11_stringOf_46 rfl ?_
        refine wp_bipush dX11_stringOf_47 ⟨by decide, by decide⟩ ?_
        have c11 := k.1
        replace k := k.2
        have c12 := k.1
        replace k := k.2
        have c13 := k.1
        replace k := k.2
        refine wp_bastore dX11_stringOf_49 c11 c12 c13 ⟨by decide, by decide⟩ ?_
        have c14 := k.1
        replace k := k.2
        refine wp_iinc 3 [1, 2, 3, 0, 4, 5] (ls' := [(0, jR a0), (1, jI a1), (2, jI a2), (3, jI (a3 + 1)), (4, jI a4), (5, jI (hA h (hR h 814 a0) a4))]) dX11_stringOf_50 rfl c14 ⟨by decide, by decide⟩ (by decide) rfl ?_
        refine wp_iconst dX11_stringOf_53 ⟨by decide, by decide⟩ ?_
        refine wp_istore [1, 2, 3, 4, 5, 6, 0] (ls' := [(0, jR a0), (1, jI a1), (2, jI a2), (3, jI (a3 + 1)), (4, jI a4), (5, jI (hA h (hR h 814 a0) a4)), (6, jI 1)]) dX11_stringOf_54 (by decide) rfl ?_
        refine wp_iconst dX11_stringOf_56 ⟨by decide, by decide⟩ ?_
        refine wp_istore [1, 2, 3, 4, 5, 6, 7, 0] (ls' := [(0, jR a0), (1, jI a1), (2, jI a2), (3, jI (a3 + 1)), (4, jI a4), (5, jI (hA h (hR h 814 a0) a4)), (6, jI 1), (7, jI 1)]) dX11_stringOf_57 (by decide) rfl ?_
        exact k
theorem bX11_stringOf_59 {d : Nat} {h : jH} {Q : jO → jH → Prop} {a0 : Nat} {a1 : Int} {a2 : Int} {a3 : Int} {a4 : Int} {a5 : Int} {a6 : Int} {a7 : Int} (k : jOK h → j32 a1 → j32 a2 → j32 a3 → j32 a4 → j32 a5 → j32 a6 → j32 a7 → hK h a0 = 9 ∧ hK h (hR h 802 a0) = 10 ∧ 0 ≤ a5 ∧ a5 < hN h (hR h 802 a0) ∧ (j32 (hA h (hR h 802 a0) a5) → (((hA h (hR h 802 a0) a5) ≤ a7 → jWp (d + 1) mX11_stringOf 84 [(0, jR a0), (1, jI a1), (2, jI a2), (3, jI a3), (4, jI a4), (5, jI a5), (6, jI a6)] [] h Q) ∧ (¬ ((hA h (hR h 802 a0) a5) ≤ a7) → j32 (a6 * 10) ∧ j32 (a7 + 1) ∧ jWp (d + 1) mX11_stringOf 59 [(0, jR a0), (1, jI a1), (2, jI a2), (3, jI a3), (4, jI a4), (5, jI a5), (6, jI (a6 * 10)), (7, jI (a7 + 1))] [] h Q)))) : jWp (d + 1) mX11_stringOf 59 [(0, jR a0), (1, jI a1), (2, jI a2), (3, jI a3), (4, jI a4), (5, jI a5), (6, jI a6), (7, jI a7)] [] h Q := by
  refine jw_ok (fun ok q => ?_)
  replace k := k ok (q _ (.tail _ (.head _))) (q _ (.tail _ (.tail _ (.head _)))) (q _ (.tail _ (.tail _ (.tail _ (.head _))))) (q _ (.tail _ (.tail _ (.tail _ (.tail _ (.head _)))))) (q _ (.tail _ (.tail _ (.tail _ (.tail _ (.tail _ (.head _))))))) (q _ (.tail _ (.tail _ (.tail _ (.tail _ (.tail _ (.tail _ (.head _)))))))) (q _ (.tail _ (.tail _ (.tail _ (.tail _ (.tail _ (.tail _ (.tail _ (.head _)))))))))
  refine wp_iload 7 dX11_stringOf_59 rfl ?_
  refine wp_aload_n 0 dX11_stringOf_61 rfl ?_
  have c1 := k.1
  replace k := k.2
  refine wp_getR (ci := 8) (j := 2) rfl (by decide) gX11_16 dX11_stringOf_62 c1 rfl ?_
  refine wp_iload 5 dX11_stringOf_65 rfl ?_
  have c2 := k.1
  replace k := k.2
  have c3 := k.1
  replace k := k.2
  have c4 := k.1
  replace k := k.2
  refine wp_iaload dX11_stringOf_67 c2 c3 c4 (fun q => ?_)
  have f5 := q
  replace k := k q
  refine wp_icmp_ge 84 dX11_stringOf_68 rfl (fun q => ?_) (fun q => ?_)
  · replace k := k.1 q
    refine wp_sub [0, 1, 2, 3, 4, 5, 6] (ls' := [(0, jR a0), (1, jI a1), (2, jI a2), (3, jI a3), (4, jI a4), (5, jI a5), (6, jI a6)]) rfl ?_
    exact k
  · replace k := k.2 q
    refine wp_iload 6 dX11_stringOf_71 rfl ?_
    refine wp_bipush dX11_stringOf_73 ⟨by decide, by decide⟩ ?_
    have c6 := k.1
    replace k := k.2
    refine wp_imul dX11_stringOf_75 c6 ?_
    refine wp_istore [1, 2, 3, 4, 5, 6, 0, 7] (ls' := [(0, jR a0), (1, jI a1), (2, jI a2), (3, jI a3), (4, jI a4), (5, jI a5), (6, jI (a6 * 10)), (7, jI a7)]) dX11_stringOf_76 (by decide) rfl ?_
    have c7 := k.1
    replace k := k.2
    refine wp_iinc 7 [1, 2, 3, 4, 5, 6, 7, 0] (ls' := [(0, jR a0), (1, jI a1), (2, jI a2), (3, jI a3), (4, jI a4), (5, jI a5), (6, jI (a6 * 10)), (7, jI (a7 + 1))]) dX11_stringOf_78 rfl c7 ⟨by decide, by decide⟩ (by decide) rfl ?_
    refine wp_goto 59 dX11_stringOf_81 rfl ?_
    exact k
theorem bX11_stringOf_84 {d : Nat} {h : jH} {Q : jO → jH → Prop} {a0 : Nat} {a1 : Int} {a2 : Int} {a3 : Int} {a4 : Int} {a5 : Int} {a6 : Int} (k : jOK h → j32 a1 → j32 a2 → j32 a3 → j32 a4 → j32 a5 → j32 a6 → ((a6 ≤ 0 → jWp (d + 1) mX11_stringOf 128 [(0, jR a0), (1, jI a1), (2, jI a2), (3, jI a3), (4, jI a4), (7, jI 0)] [] h Q) ∧ (¬ (a6 ≤ 0) → hK h a0 = 9 ∧ hK h (hR h 801 a0) = 10 ∧ 0 ≤ a5 ∧ a5 < hN h (hR h 801 a0) ∧ (j32 (hA h (hR h 801 a0) a5) → 0 ≤ (hA h (hR h 801 a0) a5) ∧ 0 < a6 ∧ 0 ≤ ((hA h (hR h 801 a0) a5) / a6) ∧ j32 (48 + (((hA h (hR h 801 a0) a5) / a6) % 10)) ∧ hK h (hR h 841 a0) = 11 ∧ 0 ≤ a3 ∧ a3 < hN h (hR h 841 a0) ∧ j32 (a3 + 1) ∧ 0 ≤ a6 ∧ jWp (d + 1) mX11_stringOf 84 [(0, jR a0), (1, jI a1), (2, jI a2), (3, jI (a3 + 1)), (4, jI a4), (5, jI a5), (6, jI (a6 / 10))] [] (sA h (hR h 841 a0) a3 (((48 + (((hA h (hR h 801 a0) a5) / a6) % 10)) + 128) % 256 - 128)) Q)))) : jWp (d + 1) mX11_stringOf 84 [(0, jR a0), (1, jI a1), (2, jI a2), (3, jI a3), (4, jI a4), (5, jI a5), (6, jI a6)] [] h Q := by
  refine jw_ok (fun ok q => ?_)
  replace k := k ok (q _ (.tail _ (.head _))) (q _ (.tail _ (.tail _ (.head _)))) (q _ (.tail _ (.tail _ (.tail _ (.head _))))) (q _ (.tail _ (.tail _ (.tail _ (.tail _ (.head _)))))) (q _ (.tail _ (.tail _ (.tail _ (.tail _ (.tail _ (.head _))))))) (q _ (.tail _ (.tail _ (.tail _ (.tail _ (.tail _ (.tail _ (.head _))))))))
  refine wp_iload 6 dX11_stringOf_84 rfl ?_
  refine wp_if_le 125 dX11_stringOf_86 rfl (fun q => ?_) (fun q => ?_)
  · replace k := k.1 q
    refine wp_iconst dX11_stringOf_125 ⟨by decide, by decide⟩ ?_
    refine wp_istore [1, 2, 3, 4, 5, 0] (ls' := [(0, jR a0), (1, jI a1), (2, jI a2), (3, jI a3), (4, jI a4), (7, jI 0)]) dX11_stringOf_126 (by decide) rfl ?_
    exact k
  · replace k := k.2 q
    refine wp_aload_n 0 dX11_stringOf_89 rfl ?_
    have c1 := k.1
    replace k := k.2
    refine wp_getR (ci := 8) (j := 41) rfl (by decide) gX11_240 dX11_stringOf_90 c1 rfl ?_
    refine wp_iload_n 3 dX11_stringOf_93 rfl ?_
    refine wp_bipush dX11_stringOf_94 ⟨by decide, by decide⟩ ?_
    refine wp_aload_n 0 dX11_stringOf_96 rfl ?_
    refine wp_getR (ci := 8) (j := 1) rfl (by decide) gX11_13 dX11_stringOf_97 c1 rfl ?_
    refine wp_iload 5 dX11_stringOf_100 rfl ?_
    have c2 := k.1
    replace k := k.2
    have c3 := k.1
    replace k := k.2
    have c4 := k.1
    replace k := k.2
    refine wp_iaload dX11_stringOf_102 c2 c3 c4 (fun q => ?_)
    have f5 := q
    replace k := k q
    refine wp_iload 6 dX11_stringOf_103 rfl ?_
    have c6 := k.1
    replace k := k.2
    have c7 := k.1
    replace k := k.2
    refine wp_idiv dX11_stringOf_105 c6 c7 ?_
    refine wp_bipush dX11_stringOf_106 ⟨by decide, by decide⟩ ?_
    have c8 := k.1
    replace k := k.2
    refine wp_irem dX11_stringOf_108 c8 (by decide) ?_
    have c9 := k.1
    replace k := k.2
    refine wp_iadd dX11_stringOf_109 c9 ?_
    refine wp_i2b dX11_stringOf_110 ?_
    have c10 := k.1
    replace k := k.2
    have c11 := k.1
    replace k := k.2
    have c12 := k.1
    replace k := k.2
    refine wp_bastore dX11_stringOf_111 c10 c11 c12 ⟨by omega, by omega⟩ ?_
    have c13 := k.1
    replace k := k.2
    refine wp_iinc 3 [1, 2, 3, 0, 4, 5, 6] (ls' := [(0, jR a0), (1, jI a1), (2, jI a2), (3, jI (a3 + 1)), (4, jI a4), (5, jI a5), (6, jI a6)]) dX11_stringOf_112 rfl c13 ⟨by decide, by decide⟩ (by decide) rfl ?_
    refine wp_iload 6 dX11_stringOf_115 rfl ?_
    refine wp_bipush dX11_stringOf_117 ⟨by decide, by decide⟩ ?_
    have c14 := k.1
    replace k := k.2
    refine wp_idiv dX11_stringOf_119 c14 (by decide) ?_
    refine wp_istore [1, 2, 3, 4, 5, 6, 0] (ls' := [(0, jR a0), (1, jI a1), (2, jI a2), (3, jI (a3 + 1)), (4, jI a4), (5, jI a5), (6, jI (a6 / 10))]) dX11_stringOf_120 (by decide) rfl ?_
    refine wp_goto 84 dX11_stringOf_122 rfl ?_
    exact k
theorem bX11_stringOf_128 {d : Nat} {h : jH} {Q : jO → jH → Prop} {a0 : Nat} {a1 : Int} {a2 : Int} {a3 : Int} {a4 : Int} {a7 : Int} (k : jOK h → j32 a1 → j32 a2 → j32 a3 → j32 a4 → j32 a7 → hK h a0 = 9 ∧ hK h (hR h 815 a0) = 10 ∧ 0 ≤ a4 ∧ a4 < hN h (hR h 815 a0) ∧ (j32 (hA h (hR h 815 a0) a4) → (((hA h (hR h 815 a0) a4) ≤ a7 → j32 (a4 + 1) ∧ jWp (d + 1) mX11_stringOf 5 [(0, jR a0), (1, jI a1), (2, jI a2), (3, jI a3), (4, jI (a4 + 1))] [] h Q) ∧ (¬ ((hA h (hR h 815 a0) a4) ≤ a7) → j32 (90 * a4) ∧ j32 ((90 * a4) + a7) ∧ hK h (hR h 817 a0) = 11 ∧ 0 ≤ ((90 * a4) + a7) ∧ ((90 * a4) + a7) < hN h (hR h 817 a0) ∧ ((-128 ≤ hA h (hR h 817 a0) ((90 * a4) + a7) ∧ hA h (hR h 817 a0) ((90 * a4) + a7) ≤ 127) → hK h (hR h 841 a0) = 11 ∧ 0 ≤ a3 ∧ a3 < hN h (hR h 841 a0) ∧ (-128 ≤ (hA h (hR h 817 a0) ((90 * a4) + a7)) ∧ (hA h (hR h 817 a0) ((90 * a4) + a7)) ≤ 127) ∧ j32 (a3 + 1) ∧ j32 (a7 + 1) ∧ jWp (d + 1) mX11_stringOf 128 [(0, jR a0), (1, jI a1), (2, jI a2), (3, jI (a3 + 1)), (4, jI a4), (7, jI (a7 + 1))] [] (sA h (hR h 841 a0) a3 (hA h (hR h 817 a0) ((90 * a4) + a7))) Q))))) : jWp (d + 1) mX11_stringOf 128 [(0, jR a0), (1, jI a1), (2, jI a2), (3, jI a3), (4, jI a4), (7, jI a7)] [] h Q := by
  refine jw_ok (fun ok q => ?_)
  replace k := k ok (q _ (.tail _ (.head _))) (q _ (.tail _ (.tail _ (.head _)))) (q _ (.tail _ (.tail _ (.tail _ (.head _))))) (q _ (.tail _ (.tail _ (.tail _ (.tail _ (.head _)))))) (q _ (.tail _ (.tail _ (.tail _ (.tail _ (.tail _ (.head _)))))))
  refine wp_iload 5 dX11_stringOf_128 rfl ?_
  refine wp_aload_n 0 dX11_stringOf_130 rfl ?_
  have c1 := k.1
  replace k := k.2
  refine wp_getR (ci := 8) (j := 15) rfl (by decide) gX11_57 dX11_stringOf_131 c1 rfl ?_
  refine wp_iload 4 dX11_stringOf_134 rfl ?_
  have c2 := k.1
  replace k := k.2
  have c3 := k.1
  replace k := k.2
  have c4 := k.1
  replace k := k.2
  refine wp_iaload dX11_stringOf_136 c2 c3 c4 (fun q => ?_)
  have f5 := q
  replace k := k q
  refine wp_icmp_ge 168 dX11_stringOf_137 rfl (fun q => ?_) (fun q => ?_)
  · replace k := k.1 q
    have c6 := k.1
    replace k := k.2
    refine wp_iinc 4 [1, 2, 3, 4, 0] (ls' := [(0, jR a0), (1, jI a1), (2, jI a2), (3, jI a3), (4, jI (a4 + 1))]) dX11_stringOf_168 rfl c6 ⟨by decide, by decide⟩ (by decide) rfl ?_
    refine wp_goto 5 dX11_stringOf_171 rfl ?_
    exact k
  · replace k := k.2 q
    refine wp_aload_n 0 dX11_stringOf_140 rfl ?_
    refine wp_getR (ci := 8) (j := 41) rfl (by decide) gX11_240 dX11_stringOf_141 c1 rfl ?_
    refine wp_iload_n 3 dX11_stringOf_144 rfl ?_
    refine wp_aload_n 0 dX11_stringOf_145 rfl ?_
    refine wp_getR (ci := 8) (j := 17) rfl (by decide) gX11_63 dX11_stringOf_146 c1 rfl ?_
    refine wp_bipush dX11_stringOf_149 ⟨by decide, by decide⟩ ?_
    refine wp_iload 4 dX11_stringOf_151 rfl ?_
    have c7 := k.1
    replace k := k.2
    refine wp_imul dX11_stringOf_153 c7 ?_
    refine wp_iload 5 dX11_stringOf_154 rfl ?_
    have c8 := k.1
    replace k := k.2
    refine wp_iadd dX11_stringOf_156 c8 ?_
    have c9 := k.1
    replace k := k.2
    have c10 := k.1
    replace k := k.2
    have c11 := k.1
    replace k := k.2
    refine wp_baload dX11_stringOf_157 c9 c10 c11 (fun q => ?_)
    have f12 := q
    replace k := k q
    have c13 := k.1
    replace k := k.2
    have c14 := k.1
    replace k := k.2
    have c15 := k.1
    replace k := k.2
    have c16 := k.1
    replace k := k.2
    refine wp_bastore dX11_stringOf_158 c13 c14 c15 c16 ?_
    have c17 := k.1
    replace k := k.2
    refine wp_iinc 3 [1, 2, 3, 0, 4, 5] (ls' := [(0, jR a0), (1, jI a1), (2, jI a2), (3, jI (a3 + 1)), (4, jI a4), (7, jI a7)]) dX11_stringOf_159 rfl c17 ⟨by decide, by decide⟩ (by decide) rfl ?_
    have c18 := k.1
    replace k := k.2
    refine wp_iinc 5 [1, 2, 3, 4, 5, 0] (ls' := [(0, jR a0), (1, jI a1), (2, jI a2), (3, jI (a3 + 1)), (4, jI a4), (7, jI (a7 + 1))]) dX11_stringOf_162 rfl c18 ⟨by decide, by decide⟩ (by decide) rfl ?_
    refine wp_goto 128 dX11_stringOf_165 rfl ?_
    exact k
theorem bX11_character {d : Nat} {h : jH} {Q : jO → jH → Prop} {a0 : Nat} {a1 : Int} (k : jOK h → j32 a1 → hK h a0 = 9 ∧ ((a1 < 0 → Q (.inl (some (jI (-1)))) (sI h 812 a0 0)) ∧ (¬ (a1 < 0) → (j32 (hI (sI h 812 a0 0) 838 a0) → ((a1 < (hI (sI h 812 a0 0) 838 a0) → hK h (hR h 837 a0) = 10 ∧ 0 ≤ a1 ∧ a1 < hN h (hR h 837 a0) ∧ (j32 (hA h (hR h 837 a0) a1) → Q (.inl (some (jI (hA h (hR h 837 a0) a1)))) (sI h 812 a0 0))) ∧ (¬ (a1 < (hI (sI h 812 a0 0) 838 a0)) → Q (.inl (some (jI (-1)))) (sI h 812 a0 0))))))) : jCall d mX11_character [jR a0, jI a1] h Q := by
  refine jCall_of plX11 (Nat.le_of_ble_eq_true rfl) ?_
  show jWp d mX11_character 0 [(0, jR a0), (1, jI a1)] [] h Q
  refine jw_ok (fun ok q => ?_)
  replace k := k ok (q _ (.tail _ (.head _)))
  refine wp_aload_n 0 dX11_character_0 rfl ?_
  refine wp_iconst dX11_character_1 ⟨by decide, by decide⟩ ?_
  have c1 := k.1
  replace k := k.2
  refine wp_putI (ci := 8) (j := 12) rfl (by decide) gX11_48 dX11_character_2 c1 (Or.inl rfl) rfl ?_
  refine wp_iload_n 1 dX11_character_5 rfl ?_
  refine wp_if_lt 17 dX11_character_6 rfl (fun q => ?_) (fun q => ?_)
  · replace k := k.1 q
    refine wp_iconst dX11_character_17 ⟨by decide, by decide⟩ ?_
    refine wp_goto 27 dX11_character_18 rfl ?_
    exact wp_iret dX11_character_27 rfl k
  · replace k := k.2 q
    refine wp_iload_n 1 dX11_character_9 rfl ?_
    refine wp_aload_n 0 dX11_character_10 rfl ?_
    refine wp_getI (ci := 8) (j := 38) rfl (by decide) gX11_231 dX11_character_11 c1 rfl (fun q => ?_)
    have f2 := q
    replace k := k q
    refine wp_icmp_lt 21 dX11_character_14 rfl (fun q => ?_) (fun q => ?_)
    · replace k := k.1 q
      refine wp_aload_n 0 dX11_character_21 rfl ?_
      refine wp_getR (ci := 8) (j := 37) rfl (by decide) gX11_228 dX11_character_22 c1 rfl ?_
      refine wp_iload_n 1 dX11_character_25 rfl ?_
      have c3 := k.1
      replace k := k.2
      have c4 := k.1
      replace k := k.2
      have c5 := k.1
      replace k := k.2
      refine wp_iaload dX11_character_26 c3 c4 c5 (fun q => ?_)
      have f6 := q
      replace k := k q
      exact wp_iret dX11_character_27 rfl k
    · replace k := k.2 q
      refine wp_iconst dX11_character_17 ⟨by decide, by decide⟩ ?_
      refine wp_goto 27 dX11_character_18 rfl ?_
      exact wp_iret dX11_character_27 rfl k
theorem bX11_lay {d : Nat} {h : jH} {Q : jO → jH → Prop} {a0 : Nat} {a1 : Int} {a2 : Int} (k : jOK h → j32 a1 → j32 a2 → j32 (a2 - 1) ∧ jWp d mX11_lay 4 [(0, jR a0), (1, jI a1), (3, jI (a2 - 1))] [] h Q) : jCall d mX11_lay [jR a0, jI a1, jI a2] h Q := by
  refine jCall_of plX11 (Nat.le_of_ble_eq_true rfl) ?_
  show jWp d mX11_lay 0 [(0, jR a0), (1, jI a1), (2, jI a2)] [] h Q
  refine jw_ok (fun ok q => ?_)
  replace k := k ok (q _ (.tail _ (.head _))) (q _ (.tail _ (.tail _ (.head _))))
  refine wp_iload_n 2 dX11_lay_0 rfl ?_
  refine wp_iconst dX11_lay_1 ⟨by decide, by decide⟩ ?_
  have c1 := k.1
  replace k := k.2
  refine wp_isub dX11_lay_2 c1 ?_
  refine wp_istore_n [1, 2, 0] (ls' := [(0, jR a0), (1, jI a1), (3, jI (a2 - 1))]) dX11_lay_3 (by decide) rfl ?_
  exact k
theorem bX11_lay_4 {d : Nat} {h : jH} {Q : jO → jH → Prop} {a0 : Nat} {a1 : Int} {a3 : Int} (k : jOK h → j32 a1 → j32 a3 → ((a3 < 0 → Q (.inl none) h) ∧ (¬ (a3 < 0) → hK h a0 = 9 ∧ (j32 (hI h 843 a0) → 0 ≤ a3 ∧ a3 < 32 ∧ hK h (hR h 842 a0) = 11 ∧ 0 ≤ (hI h 843 a0) ∧ (hI h 843 a0) < hN h (hR h 842 a0) ∧ j32 ((hI h 843 a0) + 1) ∧ j32 (a3 + (-1)) ∧ jWp d mX11_lay 4 [(0, jR a0), (1, jI a1), (3, jI (a3 + (-1)))] [] (sI (sA h (hR h 842 a0) (hI h 843 a0) ((((a1 / 2 ^ (a3).toNat) % 2) + 128) % 256 - 128)) 843 a0 ((hI h 843 a0) + 1)) Q)))) : jWp d mX11_lay 4 [(0, jR a0), (1, jI a1), (3, jI a3)] [] h Q := by
  refine jw_ok (fun ok q => ?_)
  replace k := k ok (q _ (.tail _ (.head _))) (q _ (.tail _ (.tail _ (.head _))))
  refine wp_iload_n 2 dX11_lay_4 rfl ?_
  refine wp_if_lt 39 dX11_lay_5 rfl (fun q => ?_) (fun q => ?_)
  · replace k := k.1 q
    exact wp_return dX11_lay_39 rfl k
  · replace k := k.2 q
    refine wp_aload_n 0 dX11_lay_8 rfl ?_
    have c1 := k.1
    replace k := k.2
    refine wp_getR (ci := 8) (j := 42) rfl (by decide) gX11_243 dX11_lay_9 c1 rfl ?_
    refine wp_aload_n 0 dX11_lay_12 rfl ?_
    refine wp_getI (ci := 8) (j := 43) rfl (by decide) gX11_246 dX11_lay_13 c1 rfl (fun q => ?_)
    have f2 := q
    replace k := k q
    refine wp_iload_n 1 dX11_lay_16 rfl ?_
    refine wp_iload_n 2 dX11_lay_17 rfl ?_
    have c3 := k.1
    replace k := k.2
    have c4 := k.1
    replace k := k.2
    refine wp_ishr dX11_lay_18 c3 c4 ?_
    refine wp_iconst dX11_lay_19 ⟨by decide, by decide⟩ ?_
    refine wp_iand1 dX11_lay_20 ?_
    refine wp_i2b dX11_lay_21 ?_
    have c5 := k.1
    replace k := k.2
    have c6 := k.1
    replace k := k.2
    have c7 := k.1
    replace k := k.2
    refine wp_bastore dX11_lay_22 c5 c6 c7 ⟨by omega, by omega⟩ ?_
    refine wp_aload_n 0 dX11_lay_23 rfl ?_
    refine wp_dup dX11_lay_24 rfl ?_
    refine wp_getI (ci := 8) (j := 43) rfl (by decide) gX11_246 dX11_lay_25 c1 rfl (fun q => ?_)
    refine wp_iconst dX11_lay_28 ⟨by decide, by decide⟩ ?_
    have c8 := k.1
    replace k := k.2
    refine wp_iadd dX11_lay_29 c8 ?_
    refine wp_putI (ci := 8) (j := 43) rfl (by decide) gX11_246 dX11_lay_30 c1 (Or.inl rfl) rfl ?_
    have c9 := k.1
    replace k := k.2
    refine wp_iinc 2 [1, 2, 0] (ls' := [(0, jR a0), (1, jI a1), (3, jI (a3 + (-1)))]) dX11_lay_33 rfl c9 ⟨by decide, by decide⟩ (by decide) rfl ?_
    refine wp_goto 4 dX11_lay_36 rfl ?_
    exact k
theorem bX11_print {d : Nat} {h : jH} {Q : jO → jH → Prop} {a0 : Nat} (k : jOK h → hK h a0 = 9 ∧ (j32 (hI (sI h 812 a0 0) 838 a0) → (((hI (sI h 812 a0 0) 838 a0) ≠ 0 → jCall d mX11_lay [jR a0, jI 0, jI 10] (sI (sI h 812 a0 0) 843 a0 0) (fun o h31 => o = .inl none ∧ jWp (d + 1) mX11_print 36 [(0, jR a0), (1, jI 0)] [] h31 Q)) ∧ ((hI (sI h 812 a0 0) 838 a0) = 0 → jCall d mX11_throwing [jR a0, jI 1] (sI h 812 a0 0) (fun o h14 => ∃ v14, o = .inl (some (jI v14)) ∧ ((v14 = 0 → hK h14 a0 = 9 ∧ jCall d mX11_lay [jR a0, jI 0, jI 10] (sI h14 843 a0 0) (fun o h31_1 => o = .inl none ∧ jWp (d + 1) mX11_print 36 [(0, jR a0), (1, jI 0)] [] h31_1 Q)) ∧ (¬ (v14 = 0) → Q (.inl (some (jI (-1)))) h14))))))) : jCall (d + 1) mX11_print [jR a0] h Q := by
  refine jCall_of plX11 (Nat.le_of_ble_eq_true rfl) ?_
  show jWp (d + 1) mX11_print 0 [(0, jR a0)] [] h Q
  refine jw_ok (fun ok q => ?_)
  replace k := k ok 
  refine wp_aload_n 0 dX11_print_0 rfl ?_
  refine wp_iconst dX11_print_1 ⟨by decide, by decide⟩ ?_
  have c1 := k.1
  replace k := k.2
  refine wp_putI (ci := 8) (j := 12) rfl (by decide) gX11_48 dX11_print_2 c1 (Or.inl rfl) rfl ?_
  refine wp_aload_n 0 dX11_print_5 rfl ?_
  refine wp_getI (ci := 8) (j := 38) rfl (by decide) gX11_231 dX11_print_6 c1 rfl (fun q => ?_)
  have f2 := q
  replace k := k q
  refine wp_if_ne 22 dX11_print_9 rfl (fun q => ?_) (fun q => ?_)
  · replace k := k.1 q
    refine wp_aload_n 0 dX11_print_22 rfl ?_
    refine wp_iconst dX11_print_23 ⟨by decide, by decide⟩ ?_
    refine wp_putI (ci := 8) (j := 43) rfl (by decide) gX11_246 dX11_print_24 c1 (Or.inl rfl) rfl ?_
    refine wp_aload_n 0 dX11_print_27 rfl ?_
    refine wp_iconst dX11_print_28 ⟨by decide, by decide⟩ ?_
    refine wp_bipush dX11_print_29 ⟨by decide, by decide⟩ ?_
    refine wp_callV (ci := 8) (y' := mX11_lay) (st := []) [jI 0, jI 10] rfl rfl rfl fX11_lay kX11_441 nX11_lay dX11_print_31 (Nat.le_of_ble_eq_true rfl) c1 ?_
    refine jCall.mono k (fun o h31 k => ?_)
    obtain ⟨e, k⟩ := k
    subst e
    show jWp (d + 1) mX11_print 34 [(0, jR a0)] [] h31 Q
    refine wp_iconst dX11_print_34 ⟨by decide, by decide⟩ ?_
    refine wp_istore_n [1, 0] (ls' := [(0, jR a0), (1, jI 0)]) dX11_print_35 (by decide) rfl ?_
    exact k
  · replace k := k.2 q
    refine wp_aload_n 0 dX11_print_12 rfl ?_
    refine wp_iconst dX11_print_13 ⟨by decide, by decide⟩ ?_
    refine wp_callV (ci := 8) (y' := mX11_throwing) (st := []) [jI 1] rfl rfl rfl fX11_throwing kX11_394 nX11_throwing dX11_print_14 (Nat.le_of_ble_eq_true rfl) c1 ?_
    refine jCall.mono k (fun o h14 k => ?_)
    obtain ⟨v14, e, k⟩ := k
    subst e
    show jWp (d + 1) mX11_print 17 [(0, jR a0)] [jI v14] h14 Q
    refine wp_if_eq 22 dX11_print_17 rfl (fun q => ?_) (fun q => ?_)
    · replace k := k.1 q
      refine wp_aload_n 0 dX11_print_22 rfl ?_
      refine wp_iconst dX11_print_23 ⟨by decide, by decide⟩ ?_
      have c3 := k.1
      replace k := k.2
      refine wp_putI (ci := 8) (j := 43) rfl (by decide) gX11_246 dX11_print_24 c3 (Or.inl rfl) rfl ?_
      refine wp_aload_n 0 dX11_print_27 rfl ?_
      refine wp_iconst dX11_print_28 ⟨by decide, by decide⟩ ?_
      refine wp_bipush dX11_print_29 ⟨by decide, by decide⟩ ?_
      refine wp_callV (ci := 8) (y' := mX11_lay) (st := []) [jI 0, jI 10] rfl rfl rfl fX11_lay kX11_441 nX11_lay dX11_print_31 (Nat.le_of_ble_eq_true rfl) c3 ?_
      refine jCall.mono k (fun o h31_1 k => ?_)
      obtain ⟨e, k⟩ := k
      subst e
      show jWp (d + 1) mX11_print 34 [(0, jR a0)] [] h31_1 Q
      refine wp_iconst dX11_print_34 ⟨by decide, by decide⟩ ?_
      refine wp_istore_n [1, 0] (ls' := [(0, jR a0), (1, jI 0)]) dX11_print_35 (by decide) rfl ?_
      exact k
    · replace k := k.2 q
      refine wp_iconst dX11_print_20 ⟨by decide, by decide⟩ ?_
      exact wp_iret dX11_print_21 rfl k
theorem bX11_print_36 {d : Nat} {h : jH} {Q : jO → jH → Prop} {a0 : Nat} {a1 : Int} (k : jOK h → j32 a1 → j32 (a1 + 1) ∧ hK h a0 = 9 ∧ (j32 (hI h 838 a0) → (((hI h 838 a0) ≤ (a1 + 1) → (j32 (hI h 836 a0) → jCall d mX11_lay [jR a0, jI (hI h 836 a0), jI 13] h (fun o h76 => o = .inl none ∧ hK h76 a0 = 9 ∧ jCall d mX11_lay [jR a0, jI 0, jI 10] h76 (fun o h83 => o = .inl none ∧ hK h83 a0 = 9 ∧ (j32 (hI h83 843 a0) → Q (.inl (some (jI (hI h83 843 a0)))) h83))))) ∧ (¬ ((hI h 838 a0) ≤ (a1 + 1)) → hK h (hR h 837 a0) = 10 ∧ 0 ≤ a1 ∧ a1 < hN h (hR h 837 a0) ∧ (j32 (hA h (hR h 837 a0) a1) → hK h (hR h 835 a0) = 10 ∧ 0 ≤ (hA h (hR h 837 a0) a1) ∧ (hA h (hR h 837 a0) a1) < hN h (hR h 835 a0) ∧ (j32 (hA h (hR h 835 a0) (hA h (hR h 837 a0) a1)) → jCall d mX11_lay [jR a0, jI (hA h (hR h 835 a0) (hA h (hR h 837 a0) a1)), jI 11] h (fun o h60 => o = .inl none ∧ j32 (a1 + 1) ∧ jWp (d + 1) mX11_print 36 [(0, jR a0), (1, jI (a1 + 1))] [] h60 Q))))))) : jWp (d + 1) mX11_print 36 [(0, jR a0), (1, jI a1)] [] h Q := by
  refine jw_ok (fun ok q => ?_)
  replace k := k ok (q _ (.tail _ (.head _)))
  refine wp_iload_n 1 dX11_print_36 rfl ?_
  refine wp_iconst dX11_print_37 ⟨by decide, by decide⟩ ?_
  have c1 := k.1
  replace k := k.2
  refine wp_iadd dX11_print_38 c1 ?_
  refine wp_aload_n 0 dX11_print_39 rfl ?_
  have c2 := k.1
  replace k := k.2
  refine wp_getI (ci := 8) (j := 38) rfl (by decide) gX11_231 dX11_print_40 c2 rfl (fun q => ?_)
  have f3 := q
  replace k := k q
  refine wp_icmp_ge 69 dX11_print_43 rfl (fun q => ?_) (fun q => ?_)
  · replace k := k.1 q
    refine wp_aload_n 0 dX11_print_69 rfl ?_
    refine wp_aload_n 0 dX11_print_70 rfl ?_
    refine wp_getI (ci := 8) (j := 36) rfl (by decide) gX11_281 dX11_print_71 c2 rfl (fun q => ?_)
    have f4 := q
    replace k := k q
    refine wp_bipush dX11_print_74 ⟨by decide, by decide⟩ ?_
    refine wp_callV (ci := 8) (y' := mX11_lay) (st := []) [jI (hI h 836 a0), jI 13] rfl rfl rfl fX11_lay kX11_441 nX11_lay dX11_print_76 (Nat.le_of_ble_eq_true rfl) c2 ?_
    refine jCall.mono k (fun o h76 k => ?_)
    obtain ⟨e, k⟩ := k
    subst e
    show jWp (d + 1) mX11_print 79 [(0, jR a0), (1, jI a1)] [] h76 Q
    refine wp_aload_n 0 dX11_print_79 rfl ?_
    refine wp_iconst dX11_print_80 ⟨by decide, by decide⟩ ?_
    refine wp_bipush dX11_print_81 ⟨by decide, by decide⟩ ?_
    have c5 := k.1
    replace k := k.2
    refine wp_callV (ci := 8) (y' := mX11_lay) (st := []) [jI 0, jI 10] rfl rfl rfl fX11_lay kX11_441 nX11_lay dX11_print_83 (Nat.le_of_ble_eq_true rfl) c5 ?_
    refine jCall.mono k (fun o h83 k => ?_)
    obtain ⟨e, k⟩ := k
    subst e
    show jWp (d + 1) mX11_print 86 [(0, jR a0), (1, jI a1)] [] h83 Q
    refine wp_aload_n 0 dX11_print_86 rfl ?_
    have c6 := k.1
    replace k := k.2
    refine wp_getI (ci := 8) (j := 43) rfl (by decide) gX11_246 dX11_print_87 c6 rfl (fun q => ?_)
    have f7 := q
    replace k := k q
    exact wp_iret dX11_print_90 rfl k
  · replace k := k.2 q
    refine wp_aload_n 0 dX11_print_46 rfl ?_
    refine wp_aload_n 0 dX11_print_47 rfl ?_
    refine wp_getR (ci := 8) (j := 35) rfl (by decide) gX11_225 dX11_print_48 c2 rfl ?_
    refine wp_aload_n 0 dX11_print_51 rfl ?_
    refine wp_getR (ci := 8) (j := 37) rfl (by decide) gX11_228 dX11_print_52 c2 rfl ?_
    refine wp_iload_n 1 dX11_print_55 rfl ?_
    have c8 := k.1
    replace k := k.2
    have c9 := k.1
    replace k := k.2
    have c10 := k.1
    replace k := k.2
    refine wp_iaload dX11_print_56 c8 c9 c10 (fun q => ?_)
    have f11 := q
    replace k := k q
    have c12 := k.1
    replace k := k.2
    have c13 := k.1
    replace k := k.2
    have c14 := k.1
    replace k := k.2
    refine wp_iaload dX11_print_57 c12 c13 c14 (fun q => ?_)
    have f15 := q
    replace k := k q
    refine wp_bipush dX11_print_58 ⟨by decide, by decide⟩ ?_
    refine wp_callV (ci := 8) (y' := mX11_lay) (st := []) [jI (hA h (hR h 835 a0) (hA h (hR h 837 a0) a1)), jI 11] rfl rfl rfl fX11_lay kX11_441 nX11_lay dX11_print_60 (Nat.le_of_ble_eq_true rfl) c2 ?_
    refine jCall.mono k (fun o h60 k => ?_)
    obtain ⟨e, k⟩ := k
    subst e
    show jWp (d + 1) mX11_print 63 [(0, jR a0), (1, jI a1)] [] h60 Q
    have c16 := k.1
    replace k := k.2
    refine wp_iinc 1 [1, 0] (ls' := [(0, jR a0), (1, jI (a1 + 1))]) dX11_print_63 rfl c16 ⟨by decide, by decide⟩ (by decide) rfl ?_
    refine wp_goto 36 dX11_print_66 rfl ?_
    exact k
theorem bX11_bars {d : Nat} {h : jH} {Q : jO → jH → Prop} {a0 : Nat} {a1 : Int} {a2 : Int} {a3 : Int} {a4 : Int} {a5 : Int} (k : jOK h → j32 a1 → j32 a2 → j32 a3 → j32 a4 → j32 a5 → hK h a0 = 9 ∧ (j32 (hI (sI h 812 a0 0) 843 a0) → j32 ((hI (sI h 812 a0 0) 843 a0) + 160) ∧ ((((hI (sI h 812 a0 0) 843 a0) + 160) ≤ 2000 → jCall d mX11_lay [jR a0, jI a1, jI 32] (sI h 812 a0 0) (fun o h25 => o = .inl none ∧ hK h25 a0 = 9 ∧ jCall d mX11_lay [jR a0, jI a2, jI 32] h25 (fun o h32 => o = .inl none ∧ hK h32 a0 = 9 ∧ jCall d mX11_lay [jR a0, jI a3, jI 32] h32 (fun o h39 => o = .inl none ∧ hK h39 a0 = 9 ∧ jCall d mX11_lay [jR a0, jI a4, jI 32] h39 (fun o h47 => o = .inl none ∧ hK h47 a0 = 9 ∧ jCall d mX11_lay [jR a0, jI a5, jI 32] h47 (fun o h55 => o = .inl none ∧ hK h55 a0 = 9 ∧ (j32 (hI h55 843 a0) → Q (.inl (some (jI (hI h55 843 a0)))) h55))))))) ∧ (¬ (((hI (sI h 812 a0 0) 843 a0) + 160) ≤ 2000) → Q (.inl (some (jI (-1)))) (sI h 812 a0 0))))) : jCall (d + 1) mX11_bars [jR a0, jI a1, jI a2, jI a3, jI a4, jI a5] h Q := by
  refine jCall_of plX11 (Nat.le_of_ble_eq_true rfl) ?_
  show jWp (d + 1) mX11_bars 0 [(0, jR a0), (1, jI a1), (2, jI a2), (3, jI a3), (4, jI a4), (5, jI a5)] [] h Q
  refine jw_ok (fun ok q => ?_)
  replace k := k ok (q _ (.tail _ (.head _))) (q _ (.tail _ (.tail _ (.head _)))) (q _ (.tail _ (.tail _ (.tail _ (.head _))))) (q _ (.tail _ (.tail _ (.tail _ (.tail _ (.head _)))))) (q _ (.tail _ (.tail _ (.tail _ (.tail _ (.tail _ (.head _)))))))
  refine wp_aload_n 0 dX11_bars_0 rfl ?_
  refine wp_iconst dX11_bars_1 ⟨by decide, by decide⟩ ?_
  have c1 := k.1
  replace k := k.2
  refine wp_putI (ci := 8) (j := 12) rfl (by decide) gX11_48 dX11_bars_2 c1 (Or.inl rfl) rfl ?_
  refine wp_aload_n 0 dX11_bars_5 rfl ?_
  refine wp_getI (ci := 8) (j := 43) rfl (by decide) gX11_246 dX11_bars_6 c1 rfl (fun q => ?_)
  have f2 := q
  replace k := k q
  refine wp_sipush dX11_bars_9 ⟨by decide, by decide⟩ ?_
  have c3 := k.1
  replace k := k.2
  refine wp_iadd dX11_bars_12 c3 ?_
  refine wp_sipush dX11_bars_13 ⟨by decide, by decide⟩ ?_
  refine wp_icmp_le 21 dX11_bars_16 rfl (fun q => ?_) (fun q => ?_)
  · replace k := k.1 q
    refine wp_aload_n 0 dX11_bars_21 rfl ?_
    refine wp_iload_n 1 dX11_bars_22 rfl ?_
    refine wp_bipush dX11_bars_23 ⟨by decide, by decide⟩ ?_
    refine wp_callV (ci := 8) (y' := mX11_lay) (st := []) [jI a1, jI 32] rfl rfl rfl fX11_lay kX11_441 nX11_lay dX11_bars_25 (Nat.le_of_ble_eq_true rfl) c1 ?_
    refine jCall.mono k (fun o h25 k => ?_)
    obtain ⟨e, k⟩ := k
    subst e
    show jWp (d + 1) mX11_bars 28 [(0, jR a0), (1, jI a1), (2, jI a2), (3, jI a3), (4, jI a4), (5, jI a5)] [] h25 Q
    refine wp_aload_n 0 dX11_bars_28 rfl ?_
    refine wp_iload_n 2 dX11_bars_29 rfl ?_
    refine wp_bipush dX11_bars_30 ⟨by decide, by decide⟩ ?_
    have c4 := k.1
    replace k := k.2
    refine wp_callV (ci := 8) (y' := mX11_lay) (st := []) [jI a2, jI 32] rfl rfl rfl fX11_lay kX11_441 nX11_lay dX11_bars_32 (Nat.le_of_ble_eq_true rfl) c4 ?_
    refine jCall.mono k (fun o h32 k => ?_)
    obtain ⟨e, k⟩ := k
    subst e
    show jWp (d + 1) mX11_bars 35 [(0, jR a0), (1, jI a1), (2, jI a2), (3, jI a3), (4, jI a4), (5, jI a5)] [] h32 Q
    refine wp_aload_n 0 dX11_bars_35 rfl ?_
    refine wp_iload_n 3 dX11_bars_36 rfl ?_
    refine wp_bipush dX11_bars_37 ⟨by decide, by decide⟩ ?_
    have c5 := k.1
    replace k := k.2
    refine wp_callV (ci := 8) (y' := mX11_lay) (st := []) [jI a3, jI 32] rfl rfl rfl fX11_lay kX11_441 nX11_lay dX11_bars_39 (Nat.le_of_ble_eq_true rfl) c5 ?_
    refine jCall.mono k (fun o h39 k => ?_)
    obtain ⟨e, k⟩ := k
    subst e
    show jWp (d + 1) mX11_bars 42 [(0, jR a0), (1, jI a1), (2, jI a2), (3, jI a3), (4, jI a4), (5, jI a5)] [] h39 Q
    refine wp_aload_n 0 dX11_bars_42 rfl ?_
    refine wp_iload 4 dX11_bars_43 rfl ?_
    refine wp_bipush dX11_bars_45 ⟨by decide, by decide⟩ ?_
    have c6 := k.1
    replace k := k.2
    refine wp_callV (ci := 8) (y' := mX11_lay) (st := []) [jI a4, jI 32] rfl rfl rfl fX11_lay kX11_441 nX11_lay dX11_bars_47 (Nat.le_of_ble_eq_true rfl) c6 ?_
    refine jCall.mono k (fun o h47 k => ?_)
    obtain ⟨e, k⟩ := k
    subst e
    show jWp (d + 1) mX11_bars 50 [(0, jR a0), (1, jI a1), (2, jI a2), (3, jI a3), (4, jI a4), (5, jI a5)] [] h47 Q
    refine wp_aload_n 0 dX11_bars_50 rfl ?_
    refine wp_iload 5 dX11_bars_51 rfl ?_
    refine wp_bipush dX11_bars_53 ⟨by decide, by decide⟩ ?_
    have c7 := k.1
    replace k := k.2
    refine wp_callV (ci := 8) (y' := mX11_lay) (st := []) [jI a5, jI 32] rfl rfl rfl fX11_lay kX11_441 nX11_lay dX11_bars_55 (Nat.le_of_ble_eq_true rfl) c7 ?_
    refine jCall.mono k (fun o h55 k => ?_)
    obtain ⟨e, k⟩ := k
    subst e
    show jWp (d + 1) mX11_bars 58 [(0, jR a0), (1, jI a1), (2, jI a2), (3, jI a3), (4, jI a4), (5, jI a5)] [] h55 Q
    refine wp_aload_n 0 dX11_bars_58 rfl ?_
    have c8 := k.1
    replace k := k.2
    refine wp_getI (ci := 8) (j := 43) rfl (by decide) gX11_246 dX11_bars_59 c8 rfl (fun q => ?_)
    have f9 := q
    replace k := k q
    exact wp_iret dX11_bars_62 rfl k
  · replace k := k.2 q
    refine wp_iconst dX11_bars_19 ⟨by decide, by decide⟩ ?_
    exact wp_iret dX11_bars_20 rfl k
theorem bX11_cut {d : Nat} {h : jH} {Q : jO → jH → Prop} {a0 : Nat} {a1 : Int} (k : jOK h → j32 a1 → hK h a0 = 9 ∧ ((a1 < 0 → Q (.inl (some (jI 0))) (sI h 812 a0 0)) ∧ (¬ (a1 < 0) → (j32 (hI (sI h 812 a0 0) 843 a0) → ((a1 ≤ (hI (sI h 812 a0 0) 843 a0) → Q (.inl (some (jI 1))) (sI (sI h 812 a0 0) 843 a0 a1)) ∧ (¬ (a1 ≤ (hI (sI h 812 a0 0) 843 a0)) → Q (.inl (some (jI 0))) (sI h 812 a0 0))))))) : jCall d mX11_cut [jR a0, jI a1] h Q := by
  refine jCall_of plX11 (Nat.le_of_ble_eq_true rfl) ?_
  show jWp d mX11_cut 0 [(0, jR a0), (1, jI a1)] [] h Q
  refine jw_ok (fun ok q => ?_)
  replace k := k ok (q _ (.tail _ (.head _)))
  refine wp_aload_n 0 dX11_cut_0 rfl ?_
  refine wp_iconst dX11_cut_1 ⟨by decide, by decide⟩ ?_
  have c1 := k.1
  replace k := k.2
  refine wp_putI (ci := 8) (j := 12) rfl (by decide) gX11_48 dX11_cut_2 c1 (Or.inl rfl) rfl ?_
  refine wp_iload_n 1 dX11_cut_5 rfl ?_
  refine wp_if_lt 17 dX11_cut_6 rfl (fun q => ?_) (fun q => ?_)
  · replace k := k.1 q
    refine wp_iconst dX11_cut_17 ⟨by decide, by decide⟩ ?_
    exact wp_zreturn dX11_cut_18 rfl (by decide) (by decide) k
  · replace k := k.2 q
    refine wp_iload_n 1 dX11_cut_9 rfl ?_
    refine wp_aload_n 0 dX11_cut_10 rfl ?_
    refine wp_getI (ci := 8) (j := 43) rfl (by decide) gX11_246 dX11_cut_11 c1 rfl (fun q => ?_)
    have f2 := q
    replace k := k q
    refine wp_icmp_le 19 dX11_cut_14 rfl (fun q => ?_) (fun q => ?_)
    · replace k := k.1 q
      refine wp_aload_n 0 dX11_cut_19 rfl ?_
      refine wp_iload_n 1 dX11_cut_20 rfl ?_
      refine wp_putI (ci := 8) (j := 43) rfl (by decide) gX11_246 dX11_cut_21 c1 (Or.inl rfl) rfl ?_
      refine wp_iconst dX11_cut_24 ⟨by decide, by decide⟩ ?_
      exact wp_zreturn dX11_cut_25 rfl (by decide) (by decide) k
    · replace k := k.2 q
      refine wp_iconst dX11_cut_17 ⟨by decide, by decide⟩ ?_
      exact wp_zreturn dX11_cut_18 rfl (by decide) (by decide) k
theorem bX11_turn {d : Nat} {h : jH} {Q : jO → jH → Prop} {a0 : Nat} (k : jOK h → hK h a0 = 9 ∧ jWp d mX11_turn 7 [(0, jR a0), (1, jI 0)] [] (sI h 812 a0 0) Q) : jCall d mX11_turn [jR a0] h Q := by
  refine jCall_of plX11 (Nat.le_of_ble_eq_true rfl) ?_
  show jWp d mX11_turn 0 [(0, jR a0)] [] h Q
  refine jw_ok (fun ok q => ?_)
  replace k := k ok 
  refine wp_aload_n 0 dX11_turn_0 rfl ?_
  refine wp_iconst dX11_turn_1 ⟨by decide, by decide⟩ ?_
  have c1 := k.1
  replace k := k.2
  refine wp_putI (ci := 8) (j := 12) rfl (by decide) gX11_48 dX11_turn_2 c1 (Or.inl rfl) rfl ?_
  refine wp_iconst dX11_turn_5 ⟨by decide, by decide⟩ ?_
  refine wp_istore_n [1, 0] (ls' := [(0, jR a0), (1, jI 0)]) dX11_turn_6 (by decide) rfl ?_
  exact k
theorem bX11_turn_7 {d : Nat} {h : jH} {Q : jO → jH → Prop} {a0 : Nat} {a1 : Int} (k : jOK h → j32 a1 → j32 (2 * a1) ∧ hK h a0 = 9 ∧ (j32 (hI h 843 a0) → (((hI h 843 a0) ≤ (2 * a1) → Q (.inl (some (jI (hI h 843 a0)))) h) ∧ (¬ ((hI h 843 a0) ≤ (2 * a1)) → hK h (hR h 842 a0) = 11 ∧ 0 ≤ a1 ∧ a1 < hN h (hR h 842 a0) ∧ ((-128 ≤ hA h (hR h 842 a0) a1 ∧ hA h (hR h 842 a0) a1 ≤ 127) → j32 ((hI h 843 a0) - 1) ∧ j32 (((hI h 843 a0) - 1) - a1) ∧ 0 ≤ (((hI h 843 a0) - 1) - a1) ∧ (((hI h 843 a0) - 1) - a1) < hN h (hR h 842 a0) ∧ ((-128 ≤ hA h (hR h 842 a0) (((hI h 843 a0) - 1) - a1) ∧ hA h (hR h 842 a0) (((hI h 843 a0) - 1) - a1) ≤ 127) → (-128 ≤ (hA h (hR h 842 a0) (((hI h 843 a0) - 1) - a1)) ∧ (hA h (hR h 842 a0) (((hI h 843 a0) - 1) - a1)) ≤ 127) ∧ (-128 ≤ (hA h (hR h 842 a0) a1) ∧ (hA h (hR h 842 a0) a1) ≤ 127) ∧ j32 (a1 + 1) ∧ jWp d mX11_turn 7 [(0, jR a0), (1, jI (a1 + 1))] [] (sA (sA h (hR h 842 a0) a1 (hA h (hR h 842 a0) (((hI h 843 a0) - 1) - a1))) (hR h 842 a0) (((hI h 843 a0) - 1) - a1) (hA h (hR h 842 a0) a1)) Q)))))) : jWp d mX11_turn 7 [(0, jR a0), (1, jI a1)] [] h Q := by
  refine jw_ok (fun ok q => ?_)
  replace k := k ok (q _ (.tail _ (.head _)))
  refine wp_iconst dX11_turn_7 ⟨by decide, by decide⟩ ?_
  refine wp_iload_n 1 dX11_turn_8 rfl ?_
  have c1 := k.1
  replace k := k.2
  refine wp_imul dX11_turn_9 c1 ?_
  refine wp_aload_n 0 dX11_turn_10 rfl ?_
  have c2 := k.1
  replace k := k.2
  refine wp_getI (ci := 8) (j := 43) rfl (by decide) gX11_246 dX11_turn_11 c2 rfl (fun q => ?_)
  have f3 := q
  replace k := k q
  refine wp_icmp_ge 63 dX11_turn_14 rfl (fun q => ?_) (fun q => ?_)
  · replace k := k.1 q
    refine wp_aload_n 0 dX11_turn_63 rfl ?_
    refine wp_getI (ci := 8) (j := 43) rfl (by decide) gX11_246 dX11_turn_64 c2 rfl (fun q => ?_)
    exact wp_iret dX11_turn_67 rfl k
  · replace k := k.2 q
    refine wp_aload_n 0 dX11_turn_17 rfl ?_
    refine wp_getR (ci := 8) (j := 42) rfl (by decide) gX11_243 dX11_turn_18 c2 rfl ?_
    refine wp_iload_n 1 dX11_turn_21 rfl ?_
    have c4 := k.1
    replace k := k.2
    have c5 := k.1
    replace k := k.2
    have c6 := k.1
    replace k := k.2
    refine wp_baload dX11_turn_22 c4 c5 c6 (fun q => ?_)
    have f7 := q
    replace k := k q
    refine wp_istore_n [1, 2, 0] (ls' := [(0, jR a0), (1, jI a1), (2, jI (hA h (hR h 842 a0) a1))]) dX11_turn_23 (by decide) rfl ?_
    refine wp_aload_n 0 dX11_turn_24 rfl ?_
    refine wp_getR (ci := 8) (j := 42) rfl (by decide) gX11_243 dX11_turn_25 c2 rfl ?_
    refine wp_iload_n 1 dX11_turn_28 rfl ?_
    refine wp_aload_n 0 dX11_turn_29 rfl ?_
    refine wp_getR (ci := 8) (j := 42) rfl (by decide) gX11_243 dX11_turn_30 c2 rfl ?_
    refine wp_aload_n 0 dX11_turn_33 rfl ?_
    refine wp_getI (ci := 8) (j := 43) rfl (by decide) gX11_246 dX11_turn_34 c2 rfl (fun q => ?_)
    refine wp_iconst dX11_turn_37 ⟨by decide, by decide⟩ ?_
    have c8 := k.1
    replace k := k.2
    refine wp_isub dX11_turn_38 c8 ?_
    refine wp_iload_n 1 dX11_turn_39 rfl ?_
    have c9 := k.1
    replace k := k.2
    refine wp_isub dX11_turn_40 c9 ?_
    have c10 := k.1
    replace k := k.2
    have c11 := k.1
    replace k := k.2
    refine wp_baload dX11_turn_41 c4 c10 c11 (fun q => ?_)
    have f12 := q
    replace k := k q
    have c13 := k.1
    replace k := k.2
    refine wp_bastore dX11_turn_42 c4 c5 c6 c13 ?_
    refine wp_aload_n 0 dX11_turn_43 rfl ?_
    refine wp_getR (ci := 8) (j := 42) rfl (by decide) gX11_243 dX11_turn_44 c2 rfl ?_
    refine wp_aload_n 0 dX11_turn_47 rfl ?_
    refine wp_getI (ci := 8) (j := 43) rfl (by decide) gX11_246 dX11_turn_48 c2 rfl (fun q => ?_)
    refine wp_iconst dX11_turn_51 ⟨by decide, by decide⟩ ?_
    refine wp_isub dX11_turn_52 c8 ?_
    refine wp_iload_n 1 dX11_turn_53 rfl ?_
    refine wp_isub dX11_turn_54 c9 ?_
    refine wp_iload_n 2 dX11_turn_55 rfl ?_
    have c14 := k.1
    replace k := k.2
    refine wp_bastore dX11_turn_56 c4 c10 c11 c14 ?_
    have c15 := k.1
    replace k := k.2
    refine wp_iinc 1 [1, 0] (ls' := [(0, jR a0), (1, jI (a1 + 1))]) dX11_turn_57 rfl c15 ⟨by decide, by decide⟩ (by decide) rfl ?_
    refine wp_goto 7 dX11_turn_60 rfl ?_
    exact k
theorem bX11_ink {d : Nat} {h : jH} {Q : jO → jH → Prop} {a0 : Nat} {a1 : Int} {a2 : Int} (k : jOK h → j32 a1 → j32 a2 → hK h a0 = 9 ∧ ((a1 < 0 → Q (.inl (some (jI (-1)))) (sI h 812 a0 0)) ∧ (¬ (a1 < 0) → (j32 (hI (sI h 812 a0 0) 843 a0) → ((a1 < (hI (sI h 812 a0 0) 843 a0) → hK h (hR h 842 a0) = 11 ∧ 0 ≤ a1 ∧ a1 < hN h (hR h 842 a0) ∧ ((-128 ≤ hA h (hR h 842 a0) a1 ∧ hA h (hR h 842 a0) a1 ≤ 127) → ((a2 = 0 → Q (.inl (some (jI (hA h (hR h 842 a0) a1)))) (sA (sI h 812 a0 0) (hR h 842 a0) a1 ((0 + 128) % 256 - 128))) ∧ (¬ (a2 = 0) → Q (.inl (some (jI (hA h (hR h 842 a0) a1)))) (sA (sI h 812 a0 0) (hR h 842 a0) a1 ((1 + 128) % 256 - 128)))))) ∧ (¬ (a1 < (hI (sI h 812 a0 0) 843 a0)) → Q (.inl (some (jI (-1)))) (sI h 812 a0 0))))))) : jCall d mX11_ink [jR a0, jI a1, jI a2] h Q := by
  refine jCall_of plX11 (Nat.le_of_ble_eq_true rfl) ?_
  show jWp d mX11_ink 0 [(0, jR a0), (1, jI a1), (2, jI a2)] [] h Q
  refine jw_ok (fun ok q => ?_)
  replace k := k ok (q _ (.tail _ (.head _))) (q _ (.tail _ (.tail _ (.head _))))
  refine wp_aload_n 0 dX11_ink_0 rfl ?_
  refine wp_iconst dX11_ink_1 ⟨by decide, by decide⟩ ?_
  have c1 := k.1
  replace k := k.2
  refine wp_putI (ci := 8) (j := 12) rfl (by decide) gX11_48 dX11_ink_2 c1 (Or.inl rfl) rfl ?_
  refine wp_iload_n 1 dX11_ink_5 rfl ?_
  refine wp_if_lt 17 dX11_ink_6 rfl (fun q => ?_) (fun q => ?_)
  · replace k := k.1 q
    refine wp_iconst dX11_ink_17 ⟨by decide, by decide⟩ ?_
    exact wp_iret dX11_ink_18 rfl k
  · replace k := k.2 q
    refine wp_iload_n 1 dX11_ink_9 rfl ?_
    refine wp_aload_n 0 dX11_ink_10 rfl ?_
    refine wp_getI (ci := 8) (j := 43) rfl (by decide) gX11_246 dX11_ink_11 c1 rfl (fun q => ?_)
    have f2 := q
    replace k := k q
    refine wp_icmp_lt 19 dX11_ink_14 rfl (fun q => ?_) (fun q => ?_)
    · replace k := k.1 q
      refine wp_aload_n 0 dX11_ink_19 rfl ?_
      refine wp_getR (ci := 8) (j := 42) rfl (by decide) gX11_243 dX11_ink_20 c1 rfl ?_
      refine wp_iload_n 1 dX11_ink_23 rfl ?_
      have c3 := k.1
      replace k := k.2
      have c4 := k.1
      replace k := k.2
      have c5 := k.1
      replace k := k.2
      refine wp_baload dX11_ink_24 c3 c4 c5 (fun q => ?_)
      have f6 := q
      replace k := k q
      refine wp_istore_n [1, 2, 3, 0] (ls' := [(0, jR a0), (1, jI a1), (2, jI a2), (3, jI (hA h (hR h 842 a0) a1))]) dX11_ink_25 (by decide) rfl ?_
      refine wp_aload_n 0 dX11_ink_26 rfl ?_
      refine wp_getR (ci := 8) (j := 42) rfl (by decide) gX11_243 dX11_ink_27 c1 rfl ?_
      refine wp_iload_n 1 dX11_ink_30 rfl ?_
      refine wp_iload_n 2 dX11_ink_31 rfl ?_
      refine wp_if_eq 39 dX11_ink_32 rfl (fun q => ?_) (fun q => ?_)
      · replace k := k.1 q
        refine wp_iconst dX11_ink_39 ⟨by decide, by decide⟩ ?_
        refine wp_i2b dX11_ink_40 ?_
        refine wp_bastore dX11_ink_41 c3 c4 c5 ⟨by omega, by omega⟩ ?_
        refine wp_iload_n 3 dX11_ink_42 rfl ?_
        exact wp_iret dX11_ink_43 rfl k
      · replace k := k.2 q
        refine wp_iconst dX11_ink_35 ⟨by decide, by decide⟩ ?_
        refine wp_goto 40 dX11_ink_36 rfl ?_
        refine wp_i2b dX11_ink_40 ?_
        refine wp_bastore dX11_ink_41 c3 c4 c5 ⟨by omega, by omega⟩ ?_
        refine wp_iload_n 3 dX11_ink_42 rfl ?_
        exact wp_iret dX11_ink_43 rfl k
    · replace k := k.2 q
      refine wp_iconst dX11_ink_17 ⟨by decide, by decide⟩ ?_
      exact wp_iret dX11_ink_18 rfl k
theorem bX11_module {d : Nat} {h : jH} {Q : jO → jH → Prop} {a0 : Nat} {a1 : Int} (k : jOK h → j32 a1 → hK h a0 = 9 ∧ ((a1 < 0 → Q (.inl (some (jI (-1)))) (sI h 812 a0 0)) ∧ (¬ (a1 < 0) → (j32 (hI (sI h 812 a0 0) 843 a0) → ((a1 < (hI (sI h 812 a0 0) 843 a0) → hK h (hR h 842 a0) = 11 ∧ 0 ≤ a1 ∧ a1 < hN h (hR h 842 a0) ∧ ((-128 ≤ hA h (hR h 842 a0) a1 ∧ hA h (hR h 842 a0) a1 ≤ 127) → Q (.inl (some (jI (hA h (hR h 842 a0) a1)))) (sI h 812 a0 0))) ∧ (¬ (a1 < (hI (sI h 812 a0 0) 843 a0)) → Q (.inl (some (jI (-1)))) (sI h 812 a0 0))))))) : jCall d mX11_module [jR a0, jI a1] h Q := by
  refine jCall_of plX11 (Nat.le_of_ble_eq_true rfl) ?_
  show jWp d mX11_module 0 [(0, jR a0), (1, jI a1)] [] h Q
  refine jw_ok (fun ok q => ?_)
  replace k := k ok (q _ (.tail _ (.head _)))
  refine wp_aload_n 0 dX11_module_0 rfl ?_
  refine wp_iconst dX11_module_1 ⟨by decide, by decide⟩ ?_
  have c1 := k.1
  replace k := k.2
  refine wp_putI (ci := 8) (j := 12) rfl (by decide) gX11_48 dX11_module_2 c1 (Or.inl rfl) rfl ?_
  refine wp_iload_n 1 dX11_module_5 rfl ?_
  refine wp_if_lt 17 dX11_module_6 rfl (fun q => ?_) (fun q => ?_)
  · replace k := k.1 q
    refine wp_iconst dX11_module_17 ⟨by decide, by decide⟩ ?_
    refine wp_goto 27 dX11_module_18 rfl ?_
    exact wp_iret dX11_module_27 rfl k
  · replace k := k.2 q
    refine wp_iload_n 1 dX11_module_9 rfl ?_
    refine wp_aload_n 0 dX11_module_10 rfl ?_
    refine wp_getI (ci := 8) (j := 43) rfl (by decide) gX11_246 dX11_module_11 c1 rfl (fun q => ?_)
    have f2 := q
    replace k := k q
    refine wp_icmp_lt 21 dX11_module_14 rfl (fun q => ?_) (fun q => ?_)
    · replace k := k.1 q
      refine wp_aload_n 0 dX11_module_21 rfl ?_
      refine wp_getR (ci := 8) (j := 42) rfl (by decide) gX11_243 dX11_module_22 c1 rfl ?_
      refine wp_iload_n 1 dX11_module_25 rfl ?_
      have c3 := k.1
      replace k := k.2
      have c4 := k.1
      replace k := k.2
      have c5 := k.1
      replace k := k.2
      refine wp_baload dX11_module_26 c3 c4 c5 (fun q => ?_)
      have f6 := q
      replace k := k q
      exact wp_iret dX11_module_27 rfl k
    · replace k := k.2 q
      refine wp_iconst dX11_module_17 ⟨by decide, by decide⟩ ?_
      refine wp_goto 27 dX11_module_18 rfl ?_
      exact wp_iret dX11_module_27 rfl k
theorem bX11_placeOf {d : Nat} {h : jH} {Q : jO → jH → Prop} {a0 : Nat} {a1 : Int} (k : jOK h → j32 a1 → hK h a0 = 9 ∧ (j32 (hI h 846 a0) → (((hI h 846 a0) = 0 → (j32 (hI h 844 a0) → j32 ((hI h 844 a0) + a1) ∧ Q (.inl (some (jI ((hI h 844 a0) + a1)))) h)) ∧ (¬ ((hI h 846 a0) = 0) → (j32 (hI h 844 a0) → (j32 (hI h 845 a0) → j32 ((hI h 844 a0) + (hI h 845 a0)) ∧ j32 (((hI h 844 a0) + (hI h 845 a0)) - 1) ∧ j32 ((((hI h 844 a0) + (hI h 845 a0)) - 1) - a1) ∧ Q (.inl (some (jI ((((hI h 844 a0) + (hI h 845 a0)) - 1) - a1)))) h)))))) : jCall d mX11_placeOf [jR a0, jI a1] h Q := by
  refine jCall_of plX11 (Nat.le_of_ble_eq_true rfl) ?_
  show jWp d mX11_placeOf 0 [(0, jR a0), (1, jI a1)] [] h Q
  refine jw_ok (fun ok q => ?_)
  replace k := k ok (q _ (.tail _ (.head _)))
  refine wp_aload_n 0 dX11_placeOf_0 rfl ?_
  have c1 := k.1
  replace k := k.2
  refine wp_getI (ci := 8) (j := 46) rfl (by decide) gX11_255 dX11_placeOf_1 c1 rfl (fun q => ?_)
  have f2 := q
  replace k := k q
  refine wp_if_eq 23 dX11_placeOf_4 rfl (fun q => ?_) (fun q => ?_)
  · replace k := k.1 q
    refine wp_aload_n 0 dX11_placeOf_23 rfl ?_
    refine wp_getI (ci := 8) (j := 44) rfl (by decide) gX11_249 dX11_placeOf_24 c1 rfl (fun q => ?_)
    have f3 := q
    replace k := k q
    refine wp_iload_n 1 dX11_placeOf_27 rfl ?_
    have c4 := k.1
    replace k := k.2
    refine wp_iadd dX11_placeOf_28 c4 ?_
    exact wp_iret dX11_placeOf_29 rfl k
  · replace k := k.2 q
    refine wp_aload_n 0 dX11_placeOf_7 rfl ?_
    refine wp_getI (ci := 8) (j := 44) rfl (by decide) gX11_249 dX11_placeOf_8 c1 rfl (fun q => ?_)
    have f5 := q
    replace k := k q
    refine wp_aload_n 0 dX11_placeOf_11 rfl ?_
    refine wp_getI (ci := 8) (j := 45) rfl (by decide) gX11_252 dX11_placeOf_12 c1 rfl (fun q => ?_)
    have f6 := q
    replace k := k q
    have c7 := k.1
    replace k := k.2
    refine wp_iadd dX11_placeOf_15 c7 ?_
    refine wp_iconst dX11_placeOf_16 ⟨by decide, by decide⟩ ?_
    have c8 := k.1
    replace k := k.2
    refine wp_isub dX11_placeOf_17 c8 ?_
    refine wp_iload_n 1 dX11_placeOf_18 rfl ?_
    have c9 := k.1
    replace k := k.2
    refine wp_isub dX11_placeOf_19 c9 ?_
    refine wp_goto 29 dX11_placeOf_20 rfl ?_
    exact wp_iret dX11_placeOf_29 rfl k
theorem bX11_bitsAt {d : Nat} {h : jH} {Q : jO → jH → Prop} {a0 : Nat} {a1 : Int} {a2 : Int} (k : jOK h → j32 a1 → j32 a2 → jWp (d + 1) mX11_bitsAt 5 [(0, jR a0), (1, jI a1), (2, jI a2), (3, jI 0), (4, jI 0)] [] h Q) : jCall (d + 1) mX11_bitsAt [jR a0, jI a1, jI a2] h Q := by
  refine jCall_of plX11 (Nat.le_of_ble_eq_true rfl) ?_
  show jWp (d + 1) mX11_bitsAt 0 [(0, jR a0), (1, jI a1), (2, jI a2)] [] h Q
  refine jw_ok (fun ok q => ?_)
  replace k := k ok (q _ (.tail _ (.head _))) (q _ (.tail _ (.tail _ (.head _))))
  refine wp_iconst dX11_bitsAt_0 ⟨by decide, by decide⟩ ?_
  refine wp_istore_n [1, 2, 3, 0] (ls' := [(0, jR a0), (1, jI a1), (2, jI a2), (3, jI 0)]) dX11_bitsAt_1 (by decide) rfl ?_
  refine wp_iconst dX11_bitsAt_2 ⟨by decide, by decide⟩ ?_
  refine wp_istore [1, 2, 3, 4, 0] (ls' := [(0, jR a0), (1, jI a1), (2, jI a2), (3, jI 0), (4, jI 0)]) dX11_bitsAt_3 (by decide) rfl ?_
  exact k
theorem bX11_bitsAt_5 {d : Nat} {h : jH} {Q : jO → jH → Prop} {a0 : Nat} {a1 : Int} {a2 : Int} {a3 : Int} {a4 : Int} (k : jOK h → j32 a1 → j32 a2 → j32 a3 → j32 a4 → ((a2 ≤ a4 → Q (.inl (some (jI a3))) h) ∧ (¬ (a2 ≤ a4) → j32 (2 * a3) ∧ hK h a0 = 9 ∧ j32 (a1 + a4) ∧ jCall d mX11_placeOf [jR a0, jI (a1 + a4)] h (fun o h23 => ∃ v23, o = .inl (some (jI v23)) ∧ hK h23 (hR h 842 a0) = 11 ∧ 0 ≤ v23 ∧ v23 < hN h23 (hR h 842 a0) ∧ ((-128 ≤ hA h23 (hR h 842 a0) v23 ∧ hA h23 (hR h 842 a0) v23 ≤ 127) → j32 ((2 * a3) + (hA h23 (hR h 842 a0) v23)) ∧ j32 (a4 + 1) ∧ jWp (d + 1) mX11_bitsAt 5 [(0, jR a0), (1, jI a1), (2, jI a2), (3, jI ((2 * a3) + (hA h23 (hR h 842 a0) v23))), (4, jI (a4 + 1))] [] h23 Q))))) : jWp (d + 1) mX11_bitsAt 5 [(0, jR a0), (1, jI a1), (2, jI a2), (3, jI a3), (4, jI a4)] [] h Q := by
  refine jw_ok (fun ok q => ?_)
  replace k := k ok (q _ (.tail _ (.head _))) (q _ (.tail _ (.tail _ (.head _)))) (q _ (.tail _ (.tail _ (.tail _ (.head _))))) (q _ (.tail _ (.tail _ (.tail _ (.tail _ (.head _))))))
  refine wp_iload 4 dX11_bitsAt_5 rfl ?_
  refine wp_iload_n 2 dX11_bitsAt_7 rfl ?_
  refine wp_icmp_ge 35 dX11_bitsAt_8 rfl (fun q => ?_) (fun q => ?_)
  · replace k := k.1 q
    refine wp_iload_n 3 dX11_bitsAt_35 rfl ?_
    exact wp_iret dX11_bitsAt_36 rfl k
  · replace k := k.2 q
    refine wp_iconst dX11_bitsAt_11 ⟨by decide, by decide⟩ ?_
    refine wp_iload_n 3 dX11_bitsAt_12 rfl ?_
    have c1 := k.1
    replace k := k.2
    refine wp_imul dX11_bitsAt_13 c1 ?_
    refine wp_aload_n 0 dX11_bitsAt_14 rfl ?_
    have c2 := k.1
    replace k := k.2
    refine wp_getR (ci := 8) (j := 42) rfl (by decide) gX11_243 dX11_bitsAt_15 c2 rfl ?_
    refine wp_aload_n 0 dX11_bitsAt_18 rfl ?_
    refine wp_iload_n 1 dX11_bitsAt_19 rfl ?_
    refine wp_iload 4 dX11_bitsAt_20 rfl ?_
    have c3 := k.1
    replace k := k.2
    refine wp_iadd dX11_bitsAt_22 c3 ?_
    refine wp_callV (ci := 8) (y' := mX11_placeOf) (st := [jR (hR h 842 a0), jI (2 * a3)]) [jI (a1 + a4)] rfl rfl rfl fX11_placeOf kX11_444 nX11_placeOf dX11_bitsAt_23 (Nat.le_of_ble_eq_true rfl) c2 ?_
    refine jCall.mono k (fun o h23 k => ?_)
    obtain ⟨v23, e, k⟩ := k
    subst e
    show jWp (d + 1) mX11_bitsAt 26 [(0, jR a0), (1, jI a1), (2, jI a2), (3, jI a3), (4, jI a4)] [jI v23, jR (hR h 842 a0), jI (2 * a3)] h23 Q
    have c4 := k.1
    replace k := k.2
    have c5 := k.1
    replace k := k.2
    have c6 := k.1
    replace k := k.2
    refine wp_baload dX11_bitsAt_26 c4 c5 c6 (fun q => ?_)
    have f7 := q
    replace k := k q
    have c8 := k.1
    replace k := k.2
    refine wp_iadd dX11_bitsAt_27 c8 ?_
    refine wp_istore_n [1, 2, 3, 0, 4] (ls' := [(0, jR a0), (1, jI a1), (2, jI a2), (3, jI ((2 * a3) + (hA h23 (hR h 842 a0) v23))), (4, jI a4)]) dX11_bitsAt_28 (by decide) rfl ?_
    have c9 := k.1
    replace k := k.2
    refine wp_iinc 4 [1, 2, 3, 4, 0] (ls' := [(0, jR a0), (1, jI a1), (2, jI a2), (3, jI ((2 * a3) + (hA h23 (hR h 842 a0) v23))), (4, jI (a4 + 1))]) dX11_bitsAt_29 rfl c9 ⟨by decide, by decide⟩ (by decide) rfl ?_
    refine wp_goto 5 dX11_bitsAt_32 rfl ?_
    exact k
theorem bX11_characterAt {d : Nat} {h : jH} {Q : jO → jH → Prop} {a0 : Nat} {a1 : Int} (k : jOK h → j32 a1 → j32 (a1 + 13) ∧ hK h a0 = 9 ∧ (j32 (hI h 845 a0) → (((hI h 845 a0) < (a1 + 13) → j32 (a1 + 11) ∧ (((a1 + 11) ≤ (hI h 845 a0) → jCall d mX11_bitsAt [jR a0, jI a1, jI 11] h (fun o h45 => ∃ v45, o = .inl (some (jI v45)) ∧ jWp (d + 1) mX11_characterAt 51 [(0, jR a0), (2, jI v45), (3, jI 0)] [] h45 Q)) ∧ (¬ ((a1 + 11) ≤ (hI h 845 a0)) → Q (.inl (some (jI (-1)))) h))) ∧ (¬ ((hI h 845 a0) < (a1 + 13)) → jCall d mX11_bitsAt [jR a0, jI a1, jI 13] h (fun o h15 => ∃ v15, o = .inl (some (jI v15)) ∧ hK h15 a0 = 9 ∧ (j32 (hI h15 836 a0) → ((v15 ≠ (hI h15 836 a0) → j32 (a1 + 11) ∧ (j32 (hI h15 845 a0) → (((a1 + 11) ≤ (hI h15 845 a0) → jCall d mX11_bitsAt [jR a0, jI a1, jI 11] h15 (fun o h45_1 => ∃ v45_1, o = .inl (some (jI v45_1)) ∧ jWp (d + 1) mX11_characterAt 51 [(0, jR a0), (2, jI v45_1), (3, jI 0)] [] h45_1 Q)) ∧ (¬ ((a1 + 11) ≤ (hI h15 845 a0)) → Q (.inl (some (jI (-1)))) h15)))) ∧ (v15 = (hI h15 836 a0) → Q (.inl (some (jI 106))) h15)))))))) : jCall (d + 1) mX11_characterAt [jR a0, jI a1] h Q := by
  refine jCall_of plX11 (Nat.le_of_ble_eq_true rfl) ?_
  show jWp (d + 1) mX11_characterAt 0 [(0, jR a0), (1, jI a1)] [] h Q
  refine jw_ok (fun ok q => ?_)
  replace k := k ok (q _ (.tail _ (.head _)))
  refine wp_iload_n 1 dX11_characterAt_0 rfl ?_
  refine wp_bipush dX11_characterAt_1 ⟨by decide, by decide⟩ ?_
  have c1 := k.1
  replace k := k.2
  refine wp_iadd dX11_characterAt_3 c1 ?_
  refine wp_aload_n 0 dX11_characterAt_4 rfl ?_
  have c2 := k.1
  replace k := k.2
  refine wp_getI (ci := 8) (j := 45) rfl (by decide) gX11_252 dX11_characterAt_5 c2 rfl (fun q => ?_)
  have f3 := q
  replace k := k q
  refine wp_icmp_gt 28 dX11_characterAt_8 rfl (fun q => ?_) (fun q => ?_)
  · replace k := k.1 q
    refine wp_iload_n 1 dX11_characterAt_28 rfl ?_
    refine wp_bipush dX11_characterAt_29 ⟨by decide, by decide⟩ ?_
    have c4 := k.1
    replace k := k.2
    refine wp_iadd dX11_characterAt_31 c4 ?_
    refine wp_aload_n 0 dX11_characterAt_32 rfl ?_
    refine wp_getI (ci := 8) (j := 45) rfl (by decide) gX11_252 dX11_characterAt_33 c2 rfl (fun q => ?_)
    refine wp_icmp_le 41 dX11_characterAt_36 rfl (fun q => ?_) (fun q => ?_)
    · replace k := k.1 q
      refine wp_aload_n 0 dX11_characterAt_41 rfl ?_
      refine wp_iload_n 1 dX11_characterAt_42 rfl ?_
      refine wp_bipush dX11_characterAt_43 ⟨by decide, by decide⟩ ?_
      refine wp_callV (ci := 8) (y' := mX11_bitsAt) (st := []) [jI a1, jI 11] rfl rfl rfl fX11_bitsAt kX11_447 nX11_bitsAt dX11_characterAt_45 (Nat.le_of_ble_eq_true rfl) c2 ?_
      refine jCall.mono k (fun o h45 k => ?_)
      obtain ⟨v45, e, k⟩ := k
      subst e
      show jWp (d + 1) mX11_characterAt 48 [(0, jR a0), (1, jI a1)] [jI v45] h45 Q
      refine wp_istore_n [1, 0] (ls' := [(0, jR a0), (2, jI v45)]) dX11_characterAt_48 (by decide) rfl ?_
      refine wp_iconst dX11_characterAt_49 ⟨by decide, by decide⟩ ?_
      refine wp_istore_n [1, 2, 0] (ls' := [(0, jR a0), (2, jI v45), (3, jI 0)]) dX11_characterAt_50 (by decide) rfl ?_
      exact k
    · replace k := k.2 q
      refine wp_iconst dX11_characterAt_39 ⟨by decide, by decide⟩ ?_
      exact wp_iret dX11_characterAt_40 rfl k
  · replace k := k.2 q
    refine wp_aload_n 0 dX11_characterAt_11 rfl ?_
    refine wp_iload_n 1 dX11_characterAt_12 rfl ?_
    refine wp_bipush dX11_characterAt_13 ⟨by decide, by decide⟩ ?_
    refine wp_callV (ci := 8) (y' := mX11_bitsAt) (st := []) [jI a1, jI 13] rfl rfl rfl fX11_bitsAt kX11_447 nX11_bitsAt dX11_characterAt_15 (Nat.le_of_ble_eq_true rfl) c2 ?_
    refine jCall.mono k (fun o h15 k => ?_)
    obtain ⟨v15, e, k⟩ := k
    subst e
    show jWp (d + 1) mX11_characterAt 18 [(0, jR a0), (1, jI a1)] [jI v15] h15 Q
    refine wp_aload_n 0 dX11_characterAt_18 rfl ?_
    have c5 := k.1
    replace k := k.2
    refine wp_getI (ci := 8) (j := 36) rfl (by decide) gX11_281 dX11_characterAt_19 c5 rfl (fun q => ?_)
    have f6 := q
    replace k := k q
    refine wp_icmp_ne 28 dX11_characterAt_22 rfl (fun q => ?_) (fun q => ?_)
    · replace k := k.1 q
      refine wp_iload_n 1 dX11_characterAt_28 rfl ?_
      refine wp_bipush dX11_characterAt_29 ⟨by decide, by decide⟩ ?_
      have c7 := k.1
      replace k := k.2
      refine wp_iadd dX11_characterAt_31 c7 ?_
      refine wp_aload_n 0 dX11_characterAt_32 rfl ?_
      refine wp_getI (ci := 8) (j := 45) rfl (by decide) gX11_252 dX11_characterAt_33 c5 rfl (fun q => ?_)
      have f8 := q
      replace k := k q
      refine wp_icmp_le 41 dX11_characterAt_36 rfl (fun q => ?_) (fun q => ?_)
      · replace k := k.1 q
        refine wp_aload_n 0 dX11_characterAt_41 rfl ?_
        refine wp_iload_n 1 dX11_characterAt_42 rfl ?_
        refine wp_bipush dX11_characterAt_43 ⟨by decide, by decide⟩ ?_
        refine wp_callV (ci := 8) (y' := mX11_bitsAt) (st := []) [jI a1, jI 11] rfl rfl rfl fX11_bitsAt kX11_447 nX11_bitsAt dX11_characterAt_45 (Nat.le_of_ble_eq_true rfl) c5 ?_
        refine jCall.mono k (fun o h45_1 k => ?_)
        obtain ⟨v45_1, e, k⟩ := k
        subst e
        show jWp (d + 1) mX11_characterAt 48 [(0, jR a0), (1, jI a1)] [jI v45_1] h45_1 Q
        refine wp_istore_n [1, 0] (ls' := [(0, jR a0), (2, jI v45_1)]) dX11_characterAt_48 (by decide) rfl ?_
        refine wp_iconst dX11_characterAt_49 ⟨by decide, by decide⟩ ?_
        refine wp_istore_n [1, 2, 0] (ls' := [(0, jR a0), (2, jI v45_1), (3, jI 0)]) dX11_characterAt_50 (by decide) rfl ?_
        exact k
      · replace k := k.2 q
        refine wp_iconst dX11_characterAt_39 ⟨by decide, by decide⟩ ?_
        exact wp_iret dX11_characterAt_40 rfl k
    · replace k := k.2 q
      refine wp_bipush dX11_characterAt_25 ⟨by decide, by decide⟩ ?_
      exact wp_iret dX11_characterAt_27 rfl k
theorem bX11_characterAt_51 {d : Nat} {h : jH} {Q : jO → jH → Prop} {a0 : Nat} {a2 : Int} {a3 : Int} (k : jOK h → j32 a2 → j32 a3 → ((106 ≤ a3 → Q (.inl (some (jI (-1)))) h) ∧ (¬ (106 ≤ a3) → hK h a0 = 9 ∧ hK h (hR h 835 a0) = 10 ∧ 0 ≤ a3 ∧ a3 < hN h (hR h 835 a0) ∧ (j32 (hA h (hR h 835 a0) a3) → (((hA h (hR h 835 a0) a3) ≠ a2 → j32 (a3 + 1) ∧ jWp (d + 1) mX11_characterAt 51 [(0, jR a0), (2, jI a2), (3, jI (a3 + 1))] [] h Q) ∧ ((hA h (hR h 835 a0) a3) = a2 → Q (.inl (some (jI a3))) h)))))) : jWp (d + 1) mX11_characterAt 51 [(0, jR a0), (2, jI a2), (3, jI a3)] [] h Q := by
  refine jw_ok (fun ok q => ?_)
  replace k := k ok (q _ (.tail _ (.head _))) (q _ (.tail _ (.tail _ (.head _))))
  refine wp_iload_n 2 dX11_characterAt_51 rfl ?_
  refine wp_bipush dX11_characterAt_52 ⟨by decide, by decide⟩ ?_
  refine wp_icmp_ge 75 dX11_characterAt_54 rfl (fun q => ?_) (fun q => ?_)
  · replace k := k.1 q
    refine wp_iconst dX11_characterAt_75 ⟨by decide, by decide⟩ ?_
    exact wp_iret dX11_characterAt_76 rfl k
  · replace k := k.2 q
    refine wp_aload_n 0 dX11_characterAt_57 rfl ?_
    have c1 := k.1
    replace k := k.2
    refine wp_getR (ci := 8) (j := 35) rfl (by decide) gX11_225 dX11_characterAt_58 c1 rfl ?_
    refine wp_iload_n 2 dX11_characterAt_61 rfl ?_
    have c2 := k.1
    replace k := k.2
    have c3 := k.1
    replace k := k.2
    have c4 := k.1
    replace k := k.2
    refine wp_iaload dX11_characterAt_62 c2 c3 c4 (fun q => ?_)
    have f5 := q
    replace k := k q
    refine wp_iload_n 1 dX11_characterAt_63 rfl ?_
    refine wp_icmp_ne 69 dX11_characterAt_64 rfl (fun q => ?_) (fun q => ?_)
    · replace k := k.1 q
      have c6 := k.1
      replace k := k.2
      refine wp_iinc 2 [1, 2, 0] (ls' := [(0, jR a0), (2, jI a2), (3, jI (a3 + 1))]) dX11_characterAt_69 rfl c6 ⟨by decide, by decide⟩ (by decide) rfl ?_
      refine wp_goto 51 dX11_characterAt_72 rfl ?_
      exact k
    · replace k := k.2 q
      refine wp_iload_n 2 dX11_characterAt_67 rfl ?_
      exact wp_iret dX11_characterAt_68 rfl k
theorem bX11_begins {d : Nat} {h : jH} {Q : jO → jH → Prop} {a0 : Nat} {a1 : Int} (k : jOK h → j32 a1 → hK h a0 = 9 ∧ (0 ≤ a1 ∧ a1 ≤ 1) ∧ (j32 (hI (sI h 846 a0 a1) 845 a0) → ((11 ≤ (hI (sI h 846 a0 a1) 845 a0) → jCall d mX11_bitsAt [jR a0, jI 0, jI 11] (sI h 846 a0 a1) (fun o h20 => ∃ v20, o = .inl (some (jI v20)) ∧ hK h20 a0 = 9 ∧ hK h20 (hR h20 835 a0) = 10 ∧ 0 ≤ (103 : Int) ∧ 103 < hN h20 (hR h20 835 a0) ∧ (j32 (hA h20 (hR h20 835 a0) 103) → ((v20 = (hA h20 (hR h20 835 a0) 103) → Q (.inl (some (jI 1))) h20) ∧ (¬ (v20 = (hA h20 (hR h20 835 a0) 103)) → 0 ≤ (104 : Int) ∧ 104 < hN h20 (hR h20 835 a0) ∧ (j32 (hA h20 (hR h20 835 a0) 104) → ((v20 = (hA h20 (hR h20 835 a0) 104) → Q (.inl (some (jI 1))) h20) ∧ (¬ (v20 = (hA h20 (hR h20 835 a0) 104)) → 0 ≤ (105 : Int) ∧ 105 < hN h20 (hR h20 835 a0) ∧ (j32 (hA h20 (hR h20 835 a0) 105) → ((v20 ≠ (hA h20 (hR h20 835 a0) 105) → Q (.inl (some (jI 0))) h20) ∧ (v20 = (hA h20 (hR h20 835 a0) 105) → Q (.inl (some (jI 1))) h20))))))))))) ∧ (¬ (11 ≤ (hI (sI h 846 a0 a1) 845 a0)) → Q (.inl (some (jI 0))) (sI h 846 a0 a1))))) : jCall (d + 1) mX11_begins [jR a0, jI a1] h Q := by
  refine jCall_of plX11 (Nat.le_of_ble_eq_true rfl) ?_
  show jWp (d + 1) mX11_begins 0 [(0, jR a0), (1, jI a1)] [] h Q
  refine jw_ok (fun ok q => ?_)
  replace k := k ok (q _ (.tail _ (.head _)))
  refine wp_aload_n 0 dX11_begins_0 rfl ?_
  refine wp_iload_n 1 dX11_begins_1 rfl ?_
  have c1 := k.1
  replace k := k.2
  have c2 := k.1
  replace k := k.2
  refine wp_putZ (ci := 8) (j := 46) rfl (by decide) gX11_255 dX11_begins_2 c1 (Or.inl rfl) rfl c2 ?_
  refine wp_aload_n 0 dX11_begins_5 rfl ?_
  refine wp_getI (ci := 8) (j := 45) rfl (by decide) gX11_252 dX11_begins_6 c1 rfl (fun q => ?_)
  have f3 := q
  replace k := k q
  refine wp_bipush dX11_begins_9 ⟨by decide, by decide⟩ ?_
  refine wp_icmp_ge 16 dX11_begins_11 rfl (fun q => ?_) (fun q => ?_)
  · replace k := k.1 q
    refine wp_aload_n 0 dX11_begins_16 rfl ?_
    refine wp_iconst dX11_begins_17 ⟨by decide, by decide⟩ ?_
    refine wp_bipush dX11_begins_18 ⟨by decide, by decide⟩ ?_
    refine wp_callV (ci := 8) (y' := mX11_bitsAt) (st := []) [jI 0, jI 11] rfl rfl rfl fX11_bitsAt kX11_447 nX11_bitsAt dX11_begins_20 (Nat.le_of_ble_eq_true rfl) c1 ?_
    refine jCall.mono k (fun o h20 k => ?_)
    obtain ⟨v20, e, k⟩ := k
    subst e
    show jWp (d + 1) mX11_begins 23 [(0, jR a0), (1, jI a1)] [jI v20] h20 Q
    refine wp_istore_n [1, 0] (ls' := [(0, jR a0), (2, jI v20)]) dX11_begins_23 (by decide) rfl ?_
    refine wp_iload_n 1 dX11_begins_24 rfl ?_
    refine wp_aload_n 0 dX11_begins_25 rfl ?_
    have c4 := k.1
    replace k := k.2
    refine wp_getR (ci := 8) (j := 35) rfl (by decide) gX11_225 dX11_begins_26 c4 rfl ?_
    refine wp_bipush dX11_begins_29 ⟨by decide, by decide⟩ ?_
    have c5 := k.1
    replace k := k.2
    have c6 := k.1
    replace k := k.2
    have c7 := k.1
    replace k := k.2
    refine wp_iaload dX11_begins_31 c5 c6 c7 (fun q => ?_)
    have f8 := q
    replace k := k q
    refine wp_icmp_eq 57 dX11_begins_32 rfl (fun q => ?_) (fun q => ?_)
    · replace k := k.1 q
      refine wp_iconst dX11_begins_57 ⟨by decide, by decide⟩ ?_
      refine wp_goto 62 dX11_begins_58 rfl ?_
      exact wp_zreturn dX11_begins_62 rfl (by decide) (by decide) k
    · replace k := k.2 q
      refine wp_iload_n 1 dX11_begins_35 rfl ?_
      refine wp_aload_n 0 dX11_begins_36 rfl ?_
      refine wp_getR (ci := 8) (j := 35) rfl (by decide) gX11_225 dX11_begins_37 c4 rfl ?_
      refine wp_bipush dX11_begins_40 ⟨by decide, by decide⟩ ?_
      have c9 := k.1
      replace k := k.2
      have c10 := k.1
      replace k := k.2
      refine wp_iaload dX11_begins_42 c5 c9 c10 (fun q => ?_)
      have f11 := q
      replace k := k q
      refine wp_icmp_eq 57 dX11_begins_43 rfl (fun q => ?_) (fun q => ?_)
      · replace k := k.1 q
        refine wp_iconst dX11_begins_57 ⟨by decide, by decide⟩ ?_
        refine wp_goto 62 dX11_begins_58 rfl ?_
        exact wp_zreturn dX11_begins_62 rfl (by decide) (by decide) k
      · replace k := k.2 q
        refine wp_iload_n 1 dX11_begins_46 rfl ?_
        refine wp_aload_n 0 dX11_begins_47 rfl ?_
        refine wp_getR (ci := 8) (j := 35) rfl (by decide) gX11_225 dX11_begins_48 c4 rfl ?_
        refine wp_bipush dX11_begins_51 ⟨by decide, by decide⟩ ?_
        have c12 := k.1
        replace k := k.2
        have c13 := k.1
        replace k := k.2
        refine wp_iaload dX11_begins_53 c5 c12 c13 (fun q => ?_)
        have f14 := q
        replace k := k q
        refine wp_icmp_ne 61 dX11_begins_54 rfl (fun q => ?_) (fun q => ?_)
        · replace k := k.1 q
          refine wp_iconst dX11_begins_61 ⟨by decide, by decide⟩ ?_
          exact wp_zreturn dX11_begins_62 rfl (by decide) (by decide) k
        · replace k := k.2 q
          refine wp_iconst dX11_begins_57 ⟨by decide, by decide⟩ ?_
          refine wp_goto 62 dX11_begins_58 rfl ?_
          exact wp_zreturn dX11_begins_62 rfl (by decide) (by decide) k
  · replace k := k.2 q
    refine wp_iconst dX11_begins_14 ⟨by decide, by decide⟩ ?_
    exact wp_zreturn dX11_begins_15 rfl (by decide) (by decide) k
theorem bX11_row {d : Nat} {h : jH} {Q : jO → jH → Prop} {a0 : Nat} (k : jOK h → jWp (d + 1) mX11_row 4 [(0, jR a0), (1, jI 0), (2, jI 0)] [] h Q) : jCall (d + 1) mX11_row [jR a0] h Q := by
  refine jCall_of plX11 (Nat.le_of_ble_eq_true rfl) ?_
  show jWp (d + 1) mX11_row 0 [(0, jR a0)] [] h Q
  refine jw_ok (fun ok q => ?_)
  replace k := k ok 
  refine wp_iconst dX11_row_0 ⟨by decide, by decide⟩ ?_
  refine wp_istore_n [1, 0] (ls' := [(0, jR a0), (1, jI 0)]) dX11_row_1 (by decide) rfl ?_
  refine wp_iconst dX11_row_2 ⟨by decide, by decide⟩ ?_
  refine wp_istore_n [1, 2, 0] (ls' := [(0, jR a0), (1, jI 0), (2, jI 0)]) dX11_row_3 (by decide) rfl ?_
  exact k
theorem bX11_row_4 {d : Nat} {h : jH} {Q : jO → jH → Prop} {a0 : Nat} {a1 : Int} {a2 : Int} (k : jOK h → j32 a1 → j32 a2 → hK h a0 = 9 ∧ jCall d mX11_characterAt [jR a0, jI a2] h (fun o h6 => ∃ v6, o = .inl (some (jI v6)) ∧ ((v6 < 103 → ((v6 < 0 → jWp (d + 1) mX11_row 53 [(0, jR a0), (2, jI a2)] [] h6 Q) ∧ (¬ (v6 < 0) → ((a1 = 100 → jWp (d + 1) mX11_row 53 [(0, jR a0), (2, jI a2)] [] h6 Q) ∧ (¬ (a1 = 100) → ((a1 ≠ 0 → jWp (d + 1) mX11_row 50 [(0, jR a0), (1, jI a1), (2, jI a2), (3, jI v6)] [jI 0, jI 0] h6 Q) ∧ (a1 = 0 → jWp (d + 1) mX11_row 50 [(0, jR a0), (1, jI a1), (2, jI a2), (3, jI v6)] [jI 1, jI 0] h6 Q))))))) ∧ (¬ (v6 < 103) → ((105 < v6 → ((v6 < 0 → jWp (d + 1) mX11_row 53 [(0, jR a0), (2, jI a2)] [] h6 Q) ∧ (¬ (v6 < 0) → ((a1 = 100 → jWp (d + 1) mX11_row 53 [(0, jR a0), (2, jI a2)] [] h6 Q) ∧ (¬ (a1 = 100) → ((a1 ≠ 0 → jWp (d + 1) mX11_row 50 [(0, jR a0), (1, jI a1), (2, jI a2), (3, jI v6)] [jI 0, jI 0] h6 Q) ∧ (a1 = 0 → jWp (d + 1) mX11_row 50 [(0, jR a0), (1, jI a1), (2, jI a2), (3, jI v6)] [jI 1, jI 0] h6 Q))))))) ∧ (¬ (105 < v6) → ((v6 < 0 → jWp (d + 1) mX11_row 53 [(0, jR a0), (2, jI a2)] [] h6 Q) ∧ (¬ (v6 < 0) → ((a1 = 100 → jWp (d + 1) mX11_row 53 [(0, jR a0), (2, jI a2)] [] h6 Q) ∧ (¬ (a1 = 100) → ((a1 ≠ 0 → jWp (d + 1) mX11_row 50 [(0, jR a0), (1, jI a1), (2, jI a2), (3, jI v6)] [jI 0, jI 1] h6 Q) ∧ (a1 = 0 → jWp (d + 1) mX11_row 50 [(0, jR a0), (1, jI a1), (2, jI a2), (3, jI v6)] [jI 1, jI 1] h6 Q)))))))))))) : jWp (d + 1) mX11_row 4 [(0, jR a0), (1, jI a1), (2, jI a2)] [] h Q := by
  refine jw_ok (fun ok q => ?_)
  replace k := k ok (q _ (.tail _ (.head _))) (q _ (.tail _ (.tail _ (.head _))))
  refine wp_aload_n 0 dX11_row_4 rfl ?_
  refine wp_iload_n 2 dX11_row_5 rfl ?_
  have c1 := k.1
  replace k := k.2
  refine wp_callV (ci := 8) (y' := mX11_characterAt) (st := []) [jI a2] rfl rfl rfl fX11_characterAt kX11_450 nX11_characterAt dX11_row_6 (Nat.le_of_ble_eq_true rfl) c1 ?_
  refine jCall.mono k (fun o h6 k => ?_)
  obtain ⟨v6, e, k⟩ := k
  subst e
  show jWp (d + 1) mX11_row 9 [(0, jR a0), (1, jI a1), (2, jI a2)] [jI v6] h6 Q
  refine wp_istore_n [1, 2, 3, 0] (ls' := [(0, jR a0), (1, jI a1), (2, jI a2), (3, jI v6)]) dX11_row_9 (by decide) rfl ?_
  refine wp_iload_n 3 dX11_row_10 rfl ?_
  refine wp_bipush dX11_row_11 ⟨by decide, by decide⟩ ?_
  refine wp_icmp_lt 26 dX11_row_13 rfl (fun q => ?_) (fun q => ?_)
  · replace k := k.1 q
    refine wp_iconst dX11_row_26 ⟨by decide, by decide⟩ ?_
    refine wp_istore [1, 2, 3, 4, 0] (ls' := [(0, jR a0), (1, jI a1), (2, jI a2), (3, jI v6), (4, jI 0)]) dX11_row_27 (by decide) rfl ?_
    refine wp_iload_n 3 dX11_row_29 rfl ?_
    refine wp_if_lt 53 dX11_row_30 rfl (fun q => ?_) (fun q => ?_)
    · replace k := k.1 q
      refine wp_sub [0, 2] (ls' := [(0, jR a0), (2, jI a2)]) rfl ?_
      exact k
    · replace k := k.2 q
      refine wp_iload_n 1 dX11_row_33 rfl ?_
      refine wp_bipush dX11_row_34 ⟨by decide, by decide⟩ ?_
      refine wp_icmp_eq 53 dX11_row_36 rfl (fun q => ?_) (fun q => ?_)
      · replace k := k.1 q
        refine wp_sub [0, 2] (ls' := [(0, jR a0), (2, jI a2)]) rfl ?_
        exact k
      · replace k := k.2 q
        refine wp_iload 4 dX11_row_39 rfl ?_
        refine wp_iload_n 1 dX11_row_41 rfl ?_
        refine wp_if_ne 49 dX11_row_42 rfl (fun q => ?_) (fun q => ?_)
        · replace k := k.1 q
          refine wp_iconst dX11_row_49 ⟨by decide, by decide⟩ ?_
          refine wp_sub [0, 1, 2, 3] (ls' := [(0, jR a0), (1, jI a1), (2, jI a2), (3, jI v6)]) rfl ?_
          exact k
        · replace k := k.2 q
          refine wp_iconst dX11_row_45 ⟨by decide, by decide⟩ ?_
          refine wp_goto 50 dX11_row_46 rfl ?_
          refine wp_sub [0, 1, 2, 3] (ls' := [(0, jR a0), (1, jI a1), (2, jI a2), (3, jI v6)]) rfl ?_
          exact k
  · replace k := k.2 q
    refine wp_iload_n 3 dX11_row_16 rfl ?_
    refine wp_bipush dX11_row_17 ⟨by decide, by decide⟩ ?_
    refine wp_icmp_gt 26 dX11_row_19 rfl (fun q => ?_) (fun q => ?_)
    · replace k := k.1 q
      refine wp_iconst dX11_row_26 ⟨by decide, by decide⟩ ?_
      refine wp_istore [1, 2, 3, 4, 0] (ls' := [(0, jR a0), (1, jI a1), (2, jI a2), (3, jI v6), (4, jI 0)]) dX11_row_27 (by decide) rfl ?_
      refine wp_iload_n 3 dX11_row_29 rfl ?_
      refine wp_if_lt 53 dX11_row_30 rfl (fun q => ?_) (fun q => ?_)
      · replace k := k.1 q
        refine wp_sub [0, 2] (ls' := [(0, jR a0), (2, jI a2)]) rfl ?_
        exact k
      · replace k := k.2 q
        refine wp_iload_n 1 dX11_row_33 rfl ?_
        refine wp_bipush dX11_row_34 ⟨by decide, by decide⟩ ?_
        refine wp_icmp_eq 53 dX11_row_36 rfl (fun q => ?_) (fun q => ?_)
        · replace k := k.1 q
          refine wp_sub [0, 2] (ls' := [(0, jR a0), (2, jI a2)]) rfl ?_
          exact k
        · replace k := k.2 q
          refine wp_iload 4 dX11_row_39 rfl ?_
          refine wp_iload_n 1 dX11_row_41 rfl ?_
          refine wp_if_ne 49 dX11_row_42 rfl (fun q => ?_) (fun q => ?_)
          · replace k := k.1 q
            refine wp_iconst dX11_row_49 ⟨by decide, by decide⟩ ?_
            refine wp_sub [0, 1, 2, 3] (ls' := [(0, jR a0), (1, jI a1), (2, jI a2), (3, jI v6)]) rfl ?_
            exact k
          · replace k := k.2 q
            refine wp_iconst dX11_row_45 ⟨by decide, by decide⟩ ?_
            refine wp_goto 50 dX11_row_46 rfl ?_
            refine wp_sub [0, 1, 2, 3] (ls' := [(0, jR a0), (1, jI a1), (2, jI a2), (3, jI v6)]) rfl ?_
            exact k
    · replace k := k.2 q
      refine wp_iconst dX11_row_22 ⟨by decide, by decide⟩ ?_
      refine wp_goto 27 dX11_row_23 rfl ?_
      refine wp_istore [1, 2, 3, 4, 0] (ls' := [(0, jR a0), (1, jI a1), (2, jI a2), (3, jI v6), (4, jI 1)]) dX11_row_27 (by decide) rfl ?_
      refine wp_iload_n 3 dX11_row_29 rfl ?_
      refine wp_if_lt 53 dX11_row_30 rfl (fun q => ?_) (fun q => ?_)
      · replace k := k.1 q
        refine wp_sub [0, 2] (ls' := [(0, jR a0), (2, jI a2)]) rfl ?_
        exact k
      · replace k := k.2 q
        refine wp_iload_n 1 dX11_row_33 rfl ?_
        refine wp_bipush dX11_row_34 ⟨by decide, by decide⟩ ?_
        refine wp_icmp_eq 53 dX11_row_36 rfl (fun q => ?_) (fun q => ?_)
        · replace k := k.1 q
          refine wp_sub [0, 2] (ls' := [(0, jR a0), (2, jI a2)]) rfl ?_
          exact k
        · replace k := k.2 q
          refine wp_iload 4 dX11_row_39 rfl ?_
          refine wp_iload_n 1 dX11_row_41 rfl ?_
          refine wp_if_ne 49 dX11_row_42 rfl (fun q => ?_) (fun q => ?_)
          · replace k := k.1 q
            refine wp_iconst dX11_row_49 ⟨by decide, by decide⟩ ?_
            refine wp_sub [0, 1, 2, 3] (ls' := [(0, jR a0), (1, jI a1), (2, jI a2), (3, jI v6)]) rfl ?_
            exact k
          · replace k := k.2 q
            refine wp_iconst dX11_row_45 ⟨by decide, by decide⟩ ?_
            refine wp_goto 50 dX11_row_46 rfl ?_
            refine wp_sub [0, 1, 2, 3] (ls' := [(0, jR a0), (1, jI a1), (2, jI a2), (3, jI v6)]) rfl ?_
            exact k
theorem bX11_row_53 {d : Nat} {h : jH} {Q : jO → jH → Prop} {a0 : Nat} {a2 : Int} (k : jOK h → j32 a2 → hK h a0 = 9 ∧ (j32 (hI h 845 a0) → (((hI h 845 a0) ≤ a2 → j32 ((hI h 845 a0) - 1) ∧ jWp (d + 1) mX11_row 75 [] [jI ((hI h 845 a0) - 1), jR a0, jI 12, jR a0] h Q) ∧ (¬ ((hI h 845 a0) ≤ a2) → jWp (d + 1) mX11_row 75 [] [jI a2, jR a0, jI 12, jR a0] h Q)))) : jWp (d + 1) mX11_row 53 [(0, jR a0), (2, jI a2)] [] h Q := by
  refine jw_ok (fun ok q => ?_)
  replace k := k ok (q _ (.tail _ (.head _)))
  refine wp_aload_n 0 dX11_row_53 rfl ?_
  refine wp_bipush dX11_row_54 ⟨by decide, by decide⟩ ?_
  refine wp_aload_n 0 dX11_row_56 rfl ?_
  refine wp_iload_n 1 dX11_row_57 rfl ?_
  refine wp_aload_n 0 dX11_row_58 rfl ?_
  have c1 := k.1
  replace k := k.2
  refine wp_getI (ci := 8) (j := 45) rfl (by decide) gX11_252 dX11_row_59 c1 rfl (fun q => ?_)
  have f2 := q
  replace k := k q
  refine wp_icmp_ge 69 dX11_row_62 rfl (fun q => ?_) (fun q => ?_)
  · replace k := k.1 q
    refine wp_aload_n 0 dX11_row_69 rfl ?_
    refine wp_getI (ci := 8) (j := 45) rfl (by decide) gX11_252 dX11_row_70 c1 rfl (fun q => ?_)
    refine wp_iconst dX11_row_73 ⟨by decide, by decide⟩ ?_
    have c3 := k.1
    replace k := k.2
    refine wp_isub dX11_row_74 c3 ?_
    refine wp_sub [] (ls' := []) rfl ?_
    exact k
  · replace k := k.2 q
    refine wp_iload_n 1 dX11_row_65 rfl ?_
    refine wp_goto 75 dX11_row_66 rfl ?_
    refine wp_sub [] (ls' := []) rfl ?_
    exact k
theorem bX11_row_50 {d : Nat} {h : jH} {Q : jO → jH → Prop} {a0 : Nat} {a1 : Int} {a2 : Int} {a3 : Int} {s0 : Int} {s1 : Int} (k : jOK h → j32 a1 → j32 a2 → j32 a3 → ((s1 = s0 → ((a3 ≠ 106 → hK h a0 = 9 ∧ hK h (hR h 847 a0) = 10 ∧ 0 ≤ a1 ∧ a1 < hN h (hR h 847 a0) ∧ hK h (hR h 848 a0) = 10 ∧ a1 < hN h (hR h 848 a0) ∧ j32 (a1 + 1) ∧ j32 (a2 + 11) ∧ jWp (d + 1) mX11_row 4 [(0, jR a0), (1, jI (a1 + 1)), (2, jI (a2 + 11))] [] (sA (sA h (hR h 847 a0) a1 a3) (hR h 848 a0) a1 a2) Q) ∧ (a3 = 106 → j32 (a2 + 13) ∧ hK h a0 = 9 ∧ (j32 (hI h 845 a0) → (((hI h 845 a0) ≤ (a2 + 13) → Q (.inl (some (jI a1))) h) ∧ (¬ ((hI h 845 a0) ≤ (a2 + 13)) → jCall d mX11_placeOf [jR a0, jI (a2 + 13)] h (fun o h135 => ∃ v135, o = .inl (some (jI v135)) ∧ hK h135 a0 = 9 ∧ jCall d mX11_fault [jR a0, jI 13, jI v135] h135 (fun o h138 => ∃ v138, o = .inl (some (jI v138)) ∧ Q (.inl (some (jI (-1)))) h138)))))))) ∧ (¬ (s1 = s0) → jWp (d + 1) mX11_row 53 [(0, jR a0), (2, jI a2)] [] h Q))) : jWp (d + 1) mX11_row 50 [(0, jR a0), (1, jI a1), (2, jI a2), (3, jI a3)] [jI s0, jI s1] h Q := by
  refine jw_ok (fun ok q => ?_)
  replace k := k ok (q _ (.tail _ (.head _))) (q _ (.tail _ (.tail _ (.head _)))) (q _ (.tail _ (.tail _ (.tail _ (.head _)))))
  refine wp_icmp_eq 84 dX11_row_50 rfl (fun q => ?_) (fun q => ?_)
  · replace k := k.1 q
    refine wp_iload_n 3 dX11_row_84 rfl ?_
    refine wp_bipush dX11_row_85 ⟨by decide, by decide⟩ ?_
    refine wp_icmp_ne 93 dX11_row_87 rfl (fun q => ?_) (fun q => ?_)
    · replace k := k.1 q
      refine wp_aload_n 0 dX11_row_93 rfl ?_
      have c1 := k.1
      replace k := k.2
      refine wp_getR (ci := 8) (j := 47) rfl (by decide) gX11_258 dX11_row_94 c1 rfl ?_
      refine wp_iload_n 1 dX11_row_97 rfl ?_
      refine wp_iload_n 3 dX11_row_98 rfl ?_
      have c2 := k.1
      replace k := k.2
      have c3 := k.1
      replace k := k.2
      have c4 := k.1
      replace k := k.2
      refine wp_iastore dX11_row_99 c2 c3 c4 ?_
      refine wp_aload_n 0 dX11_row_100 rfl ?_
      refine wp_getR (ci := 8) (j := 48) rfl (by decide) gX11_261 dX11_row_101 c1 rfl ?_
      refine wp_iload_n 1 dX11_row_104 rfl ?_
      refine wp_iload_n 2 dX11_row_105 rfl ?_
      have c5 := k.1
      replace k := k.2
      have c6 := k.1
      replace k := k.2
      refine wp_iastore dX11_row_106 c5 c3 c6 ?_
      have c7 := k.1
      replace k := k.2
      refine wp_iinc 1 [1, 0, 2] (ls' := [(0, jR a0), (1, jI (a1 + 1)), (2, jI a2)]) dX11_row_107 rfl c7 ⟨by decide, by decide⟩ (by decide) rfl ?_
      have c8 := k.1
      replace k := k.2
      refine wp_iinc 2 [1, 2, 0] (ls' := [(0, jR a0), (1, jI (a1 + 1)), (2, jI (a2 + 11))]) dX11_row_110 rfl c8 ⟨by decide, by decide⟩ (by decide) rfl ?_
      refine wp_goto 4 dX11_row_113 rfl ?_
      exact k
    · replace k := k.2 q
      refine wp_goto 116 dX11_row_90 rfl ?_
      refine wp_iload_n 2 dX11_row_116 rfl ?_
      refine wp_bipush dX11_row_117 ⟨by decide, by decide⟩ ?_
      have c9 := k.1
      replace k := k.2
      refine wp_iadd dX11_row_119 c9 ?_
      refine wp_aload_n 0 dX11_row_120 rfl ?_
      have c10 := k.1
      replace k := k.2
      refine wp_getI (ci := 8) (j := 45) rfl (by decide) gX11_252 dX11_row_121 c10 rfl (fun q => ?_)
      have f11 := q
      replace k := k q
      refine wp_icmp_ge 144 dX11_row_124 rfl (fun q => ?_) (fun q => ?_)
      · replace k := k.1 q
        refine wp_iload_n 1 dX11_row_144 rfl ?_
        exact wp_iret dX11_row_145 rfl k
      · replace k := k.2 q
        refine wp_aload_n 0 dX11_row_127 rfl ?_
        refine wp_bipush dX11_row_128 ⟨by decide, by decide⟩ ?_
        refine wp_aload_n 0 dX11_row_130 rfl ?_
        refine wp_iload_n 2 dX11_row_131 rfl ?_
        refine wp_bipush dX11_row_132 ⟨by decide, by decide⟩ ?_
        refine wp_iadd dX11_row_134 c9 ?_
        refine wp_callV (ci := 8) (y' := mX11_placeOf) (st := [jI 13, jR a0]) [jI (a2 + 13)] rfl rfl rfl fX11_placeOf kX11_444 nX11_placeOf dX11_row_135 (Nat.le_of_ble_eq_true rfl) c10 ?_
        refine jCall.mono k (fun o h135 k => ?_)
        obtain ⟨v135, e, k⟩ := k
        subst e
        show jWp (d + 1) mX11_row 138 [(0, jR a0), (1, jI a1), (2, jI a2), (3, jI a3)] [jI v135, jI 13, jR a0] h135 Q
        have c12 := k.1
        replace k := k.2
        refine wp_callV (ci := 8) (y' := mX11_fault) (st := []) [jI 13, jI v135] rfl rfl rfl fX11_fault kX11_304 nX11_fault dX11_row_138 (Nat.le_of_ble_eq_true rfl) c12 ?_
        refine jCall.mono k (fun o h138 k => ?_)
        obtain ⟨v138, e, k⟩ := k
        subst e
        show jWp (d + 1) mX11_row 141 [(0, jR a0), (1, jI a1), (2, jI a2), (3, jI a3)] [jI v138] h138 Q
        refine wp_pop dX11_row_141 rfl ?_
        refine wp_iconst dX11_row_142 ⟨by decide, by decide⟩ ?_
        exact wp_iret dX11_row_143 rfl k
  · replace k := k.2 q
    refine wp_sub [0, 2] (ls' := [(0, jR a0), (2, jI a2)]) rfl ?_
    exact k
theorem bX11_row_75 {d : Nat} {h : jH} {Q : jO → jH → Prop} {s0 : Int} {s1 : Nat} {s2 : Int} {s3 : Nat} (k : jOK h → hK h s1 = 9 ∧ jCall d mX11_placeOf [jR s1, jI s0] h (fun o h75 => ∃ v75, o = .inl (some (jI v75)) ∧ hK h75 s3 = 9 ∧ jCall d mX11_fault [jR s3, jI s2, jI v75] h75 (fun o h78 => ∃ v78, o = .inl (some (jI v78)) ∧ Q (.inl (some (jI (-1)))) h78))) : jWp (d + 1) mX11_row 75 [] [jI s0, jR s1, jI s2, jR s3] h Q := by
  refine jw_ok (fun ok q => ?_)
  replace k := k ok 
  have c1 := k.1
  replace k := k.2
  refine wp_callV (ci := 8) (y' := mX11_placeOf) (st := [jI s2, jR s3]) [jI s0] rfl rfl rfl fX11_placeOf kX11_444 nX11_placeOf dX11_row_75 (Nat.le_of_ble_eq_true rfl) c1 ?_
  refine jCall.mono k (fun o h75 k => ?_)
  obtain ⟨v75, e, k⟩ := k
  subst e
  show jWp (d + 1) mX11_row 78 [] [jI v75, jI s2, jR s3] h75 Q
  have c2 := k.1
  replace k := k.2
  refine wp_callV (ci := 8) (y' := mX11_fault) (st := []) [jI s2, jI v75] rfl rfl rfl fX11_fault kX11_304 nX11_fault dX11_row_78 (Nat.le_of_ble_eq_true rfl) c2 ?_
  refine jCall.mono k (fun o h78 k => ?_)
  obtain ⟨v78, e, k⟩ := k
  subst e
  show jWp (d + 1) mX11_row 81 [] [jI v78] h78 Q
  refine wp_pop dX11_row_81 rfl ?_
  refine wp_iconst dX11_row_82 ⟨by decide, by decide⟩ ?_
  exact wp_iret dX11_row_83 rfl k
theorem bX11_scan {d : Nat} {h : jH} {Q : jO → jH → Prop} {a0 : Nat} (k : jOK h → hK h a0 = 9 ∧ (j32 (hI (sI (sI (sI h 812 a0 0) 823 a0 0) 824 a0 (-1)) 843 a0) → j32 ((hI (sI (sI (sI h 812 a0 0) 823 a0 0) 824 a0 (-1)) 843 a0) - 1) ∧ jWp (d + 1) mX11_scan 27 [(0, jR a0), (1, jI ((hI (sI (sI (sI h 812 a0 0) 823 a0 0) 824 a0 (-1)) 843 a0) - 1))] [] (sI (sI (sI (sI h 812 a0 0) 823 a0 0) 824 a0 (-1)) 844 a0 0) Q)) : jCall (d + 1) mX11_scan [jR a0] h Q := by
  refine jCall_of plX11 (Nat.le_of_ble_eq_true rfl) ?_
  show jWp (d + 1) mX11_scan 0 [(0, jR a0)] [] h Q
  refine jw_ok (fun ok q => ?_)
  replace k := k ok 
  refine wp_aload_n 0 dX11_scan_0 rfl ?_
  refine wp_iconst dX11_scan_1 ⟨by decide, by decide⟩ ?_
  have c1 := k.1
  replace k := k.2
  refine wp_putI (ci := 8) (j := 12) rfl (by decide) gX11_48 dX11_scan_2 c1 (Or.inl rfl) rfl ?_
  refine wp_aload_n 0 dX11_scan_5 rfl ?_
  refine wp_iconst dX11_scan_6 ⟨by decide, by decide⟩ ?_
  refine wp_putI (ci := 8) (j := 23) rfl (by decide) gX11_82 dX11_scan_7 c1 (Or.inl rfl) rfl ?_
  refine wp_aload_n 0 dX11_scan_10 rfl ?_
  refine wp_iconst dX11_scan_11 ⟨by decide, by decide⟩ ?_
  refine wp_putI (ci := 8) (j := 24) rfl (by decide) gX11_85 dX11_scan_12 c1 (Or.inl rfl) rfl ?_
  refine wp_aload_n 0 dX11_scan_15 rfl ?_
  refine wp_getI (ci := 8) (j := 43) rfl (by decide) gX11_246 dX11_scan_16 c1 rfl (fun q => ?_)
  have f2 := q
  replace k := k q
  refine wp_iconst dX11_scan_19 ⟨by decide, by decide⟩ ?_
  have c3 := k.1
  replace k := k.2
  refine wp_isub dX11_scan_20 c3 ?_
  refine wp_istore_n [1, 0] (ls' := [(0, jR a0), (1, jI ((hI (sI (sI (sI h 812 a0 0) 823 a0 0) 824 a0 (-1)) 843 a0) - 1))]) dX11_scan_21 (by decide) rfl ?_
  refine wp_aload_n 0 dX11_scan_22 rfl ?_
  refine wp_iconst dX11_scan_23 ⟨by decide, by decide⟩ ?_
  refine wp_putI (ci := 8) (j := 44) rfl (by decide) gX11_249 dX11_scan_24 c1 (Or.inl rfl) rfl ?_
  exact k
theorem bX11_scan_27 {d : Nat} {h : jH} {Q : jO → jH → Prop} {a0 : Nat} {a1 : Int} (k : jOK h → j32 a1 → ((a1 < 0 → jWp (d + 1) mX11_scan 46 [(0, jR a0), (1, jI a1)] [] h Q) ∧ (¬ (a1 < 0) → hK h a0 = 9 ∧ hK h (hR h 842 a0) = 11 ∧ 0 ≤ a1 ∧ a1 < hN h (hR h 842 a0) ∧ ((-128 ≤ hA h (hR h 842 a0) a1 ∧ hA h (hR h 842 a0) a1 ≤ 127) → (((hA h (hR h 842 a0) a1) ≠ 0 → jWp (d + 1) mX11_scan 46 [(0, jR a0), (1, jI a1)] [] h Q) ∧ ((hA h (hR h 842 a0) a1) = 0 → j32 (a1 + (-1)) ∧ jWp (d + 1) mX11_scan 27 [(0, jR a0), (1, jI (a1 + (-1)))] [] h Q)))))) : jWp (d + 1) mX11_scan 27 [(0, jR a0), (1, jI a1)] [] h Q := by
  refine jw_ok (fun ok q => ?_)
  replace k := k ok (q _ (.tail _ (.head _)))
  refine wp_iload_n 1 dX11_scan_27 rfl ?_
  refine wp_if_lt 46 dX11_scan_28 rfl (fun q => ?_) (fun q => ?_)
  · replace k := k.1 q
    exact k
  · replace k := k.2 q
    refine wp_aload_n 0 dX11_scan_31 rfl ?_
    have c1 := k.1
    replace k := k.2
    refine wp_getR (ci := 8) (j := 42) rfl (by decide) gX11_243 dX11_scan_32 c1 rfl ?_
    refine wp_iload_n 1 dX11_scan_35 rfl ?_
    have c2 := k.1
    replace k := k.2
    have c3 := k.1
    replace k := k.2
    have c4 := k.1
    replace k := k.2
    refine wp_baload dX11_scan_36 c2 c3 c4 (fun q => ?_)
    have f5 := q
    replace k := k q
    refine wp_if_ne 46 dX11_scan_37 rfl (fun q => ?_) (fun q => ?_)
    · replace k := k.1 q
      exact k
    · replace k := k.2 q
      have c6 := k.1
      replace k := k.2
      refine wp_iinc 1 [1, 0] (ls' := [(0, jR a0), (1, jI (a1 + (-1)))]) dX11_scan_40 rfl c6 ⟨by decide, by decide⟩ (by decide) rfl ?_
      refine wp_goto 27 dX11_scan_43 rfl ?_
      exact k
theorem bX11_scan_46 {d : Nat} {h : jH} {Q : jO → jH → Prop} {a0 : Nat} {a1 : Int} (k : jOK h → j32 a1 → hK h a0 = 9 ∧ (j32 (hI h 844 a0) → ((a1 < (hI h 844 a0) → j32 (a1 - (hI h 844 a0)) ∧ j32 ((a1 - (hI h 844 a0)) + 1) ∧ (j32 (hI (sI h 845 a0 ((a1 - (hI h 844 a0)) + 1)) 845 a0) → ((0 < (hI (sI h 845 a0 ((a1 - (hI h 844 a0)) + 1)) 845 a0) → jCall d mX11_begins [jR a0, jI 0] (sI h 845 a0 ((a1 - (hI h 844 a0)) + 1)) (fun o h110 => ∃ v110, o = .inl (some (jI v110)) ∧ ((v110 ≠ 0 → jWp (d + 1) mX11_scan 129 [(0, jR a0)] [jI 1] h110 Q) ∧ (v110 = 0 → hK h110 a0 = 9 ∧ jCall d mX11_begins [jR a0, jI 1] h110 (fun o h118 => ∃ v118, o = .inl (some (jI v118)) ∧ ((v118 ≠ 0 → jWp (d + 1) mX11_scan 129 [(0, jR a0)] [jI 0] h118 Q) ∧ (v118 = 0 → jWp (d + 1) mX11_scan 129 [(0, jR a0)] [jI 1] h118 Q))))))) ∧ (¬ (0 < (hI (sI h 845 a0 ((a1 - (hI h 844 a0)) + 1)) 845 a0)) → jCall d mX11_fault [jR a0, jI 11, jI 0] (sI h 845 a0 ((a1 - (hI h 844 a0)) + 1)) (fun o h102 => ∃ v102, o = .inl (some (jI v102)) ∧ Q (.inl (some (jI (-1)))) h102))))) ∧ (¬ (a1 < (hI h 844 a0)) → hK h (hR h 842 a0) = 11 ∧ 0 ≤ (hI h 844 a0) ∧ (hI h 844 a0) < hN h (hR h 842 a0) ∧ ((-128 ≤ hA h (hR h 842 a0) (hI h 844 a0) ∧ hA h (hR h 842 a0) (hI h 844 a0) ≤ 127) → (((hA h (hR h 842 a0) (hI h 844 a0)) ≠ 0 → j32 (a1 - (hI h 844 a0)) ∧ j32 ((a1 - (hI h 844 a0)) + 1) ∧ (j32 (hI (sI h 845 a0 ((a1 - (hI h 844 a0)) + 1)) 845 a0) → ((0 < (hI (sI h 845 a0 ((a1 - (hI h 844 a0)) + 1)) 845 a0) → jCall d mX11_begins [jR a0, jI 0] (sI h 845 a0 ((a1 - (hI h 844 a0)) + 1)) (fun o h110_1 => ∃ v110_1, o = .inl (some (jI v110_1)) ∧ ((v110_1 ≠ 0 → jWp (d + 1) mX11_scan 129 [(0, jR a0)] [jI 1] h110_1 Q) ∧ (v110_1 = 0 → hK h110_1 a0 = 9 ∧ jCall d mX11_begins [jR a0, jI 1] h110_1 (fun o h118_1 => ∃ v118_1, o = .inl (some (jI v118_1)) ∧ ((v118_1 ≠ 0 → jWp (d + 1) mX11_scan 129 [(0, jR a0)] [jI 0] h118_1 Q) ∧ (v118_1 = 0 → jWp (d + 1) mX11_scan 129 [(0, jR a0)] [jI 1] h118_1 Q))))))) ∧ (¬ (0 < (hI (sI h 845 a0 ((a1 - (hI h 844 a0)) + 1)) 845 a0)) → jCall d mX11_fault [jR a0, jI 11, jI 0] (sI h 845 a0 ((a1 - (hI h 844 a0)) + 1)) (fun o h102_1 => ∃ v102_1, o = .inl (some (jI v102_1)) ∧ Q (.inl (some (jI (-1)))) h102_1))))) ∧ ((hA h (hR h 842 a0) (hI h 844 a0)) = 0 → j32 ((hI h 844 a0) + 1) ∧ jWp (d + 1) mX11_scan 46 [(0, jR a0), (1, jI a1)] [] (sI h 844 a0 ((hI h 844 a0) + 1)) Q))))))) : jWp (d + 1) mX11_scan 46 [(0, jR a0), (1, jI a1)] [] h Q := by
  refine jw_ok (fun ok q => ?_)
  replace k := k ok (q _ (.tail _ (.head _)))
  refine wp_aload_n 0 dX11_scan_46 rfl ?_
  have c1 := k.1
  replace k := k.2
  refine wp_getI (ci := 8) (j := 44) rfl (by decide) gX11_249 dX11_scan_47 c1 rfl (fun q => ?_)
  have f2 := q
  replace k := k q
  refine wp_iload_n 1 dX11_scan_50 rfl ?_
  refine wp_icmp_gt 79 dX11_scan_51 rfl (fun q => ?_) (fun q => ?_)
  · replace k := k.1 q
    refine wp_aload_n 0 dX11_scan_79 rfl ?_
    refine wp_iload_n 1 dX11_scan_80 rfl ?_
    refine wp_aload_n 0 dX11_scan_81 rfl ?_
    refine wp_getI (ci := 8) (j := 44) rfl (by decide) gX11_249 dX11_scan_82 c1 rfl (fun q => ?_)
    have c3 := k.1
    replace k := k.2
    refine wp_isub dX11_scan_85 c3 ?_
    refine wp_iconst dX11_scan_86 ⟨by decide, by decide⟩ ?_
    have c4 := k.1
    replace k := k.2
    refine wp_iadd dX11_scan_87 c4 ?_
    refine wp_putI (ci := 8) (j := 45) rfl (by decide) gX11_252 dX11_scan_88 c1 (Or.inl rfl) rfl ?_
    refine wp_aload_n 0 dX11_scan_91 rfl ?_
    refine wp_getI (ci := 8) (j := 45) rfl (by decide) gX11_252 dX11_scan_92 c1 rfl (fun q => ?_)
    have f5 := q
    replace k := k q
    refine wp_if_gt 108 dX11_scan_95 rfl (fun q => ?_) (fun q => ?_)
    · replace k := k.1 q
      refine wp_aload_n 0 dX11_scan_108 rfl ?_
      refine wp_iconst dX11_scan_109 ⟨by decide, by decide⟩ ?_
      refine wp_callV (ci := 8) (y' := mX11_begins) (st := []) [jI 0] rfl rfl rfl fX11_begins kX11_453 nX11_begins dX11_scan_110 (Nat.le_of_ble_eq_true rfl) c1 ?_
      refine jCall.mono k (fun o h110 k => ?_)
      obtain ⟨v110, e, k⟩ := k
      subst e
      show jWp (d + 1) mX11_scan 113 [(0, jR a0), (1, jI a1)] [jI v110] h110 Q
      refine wp_if_ne 124 dX11_scan_113 rfl (fun q => ?_) (fun q => ?_)
      · replace k := k.1 q
        refine wp_iconst dX11_scan_124 ⟨by decide, by decide⟩ ?_
        refine wp_goto 129 dX11_scan_125 rfl ?_
        refine wp_sub [0] (ls' := [(0, jR a0)]) rfl ?_
        exact k
      · replace k := k.2 q
        refine wp_aload_n 0 dX11_scan_116 rfl ?_
        refine wp_iconst dX11_scan_117 ⟨by decide, by decide⟩ ?_
        have c6 := k.1
        replace k := k.2
        refine wp_callV (ci := 8) (y' := mX11_begins) (st := []) [jI 1] rfl rfl rfl fX11_begins kX11_453 nX11_begins dX11_scan_118 (Nat.le_of_ble_eq_true rfl) c6 ?_
        refine jCall.mono k (fun o h118 k => ?_)
        obtain ⟨v118, e, k⟩ := k
        subst e
        show jWp (d + 1) mX11_scan 121 [(0, jR a0), (1, jI a1)] [jI v118] h118 Q
        refine wp_if_ne 128 dX11_scan_121 rfl (fun q => ?_) (fun q => ?_)
        · replace k := k.1 q
          refine wp_iconst dX11_scan_128 ⟨by decide, by decide⟩ ?_
          refine wp_sub [0] (ls' := [(0, jR a0)]) rfl ?_
          exact k
        · replace k := k.2 q
          refine wp_iconst dX11_scan_124 ⟨by decide, by decide⟩ ?_
          refine wp_goto 129 dX11_scan_125 rfl ?_
          refine wp_sub [0] (ls' := [(0, jR a0)]) rfl ?_
          exact k
    · replace k := k.2 q
      refine wp_aload_n 0 dX11_scan_98 rfl ?_
      refine wp_bipush dX11_scan_99 ⟨by decide, by decide⟩ ?_
      refine wp_iconst dX11_scan_101 ⟨by decide, by decide⟩ ?_
      refine wp_callV (ci := 8) (y' := mX11_fault) (st := []) [jI 11, jI 0] rfl rfl rfl fX11_fault kX11_304 nX11_fault dX11_scan_102 (Nat.le_of_ble_eq_true rfl) c1 ?_
      refine jCall.mono k (fun o h102 k => ?_)
      obtain ⟨v102, e, k⟩ := k
      subst e
      show jWp (d + 1) mX11_scan 105 [(0, jR a0), (1, jI a1)] [jI v102] h102 Q
      refine wp_pop dX11_scan_105 rfl ?_
      refine wp_iconst dX11_scan_106 ⟨by decide, by decide⟩ ?_
      exact wp_iret dX11_scan_107 rfl k
  · replace k := k.2 q
    refine wp_aload_n 0 dX11_scan_54 rfl ?_
    refine wp_getR (ci := 8) (j := 42) rfl (by decide) gX11_243 dX11_scan_55 c1 rfl ?_
    refine wp_aload_n 0 dX11_scan_58 rfl ?_
    refine wp_getI (ci := 8) (j := 44) rfl (by decide) gX11_249 dX11_scan_59 c1 rfl (fun q => ?_)
    have c7 := k.1
    replace k := k.2
    have c8 := k.1
    replace k := k.2
    have c9 := k.1
    replace k := k.2
    refine wp_baload dX11_scan_62 c7 c8 c9 (fun q => ?_)
    have f10 := q
    replace k := k q
    refine wp_if_ne 79 dX11_scan_63 rfl (fun q => ?_) (fun q => ?_)
    · replace k := k.1 q
      refine wp_aload_n 0 dX11_scan_79 rfl ?_
      refine wp_iload_n 1 dX11_scan_80 rfl ?_
      refine wp_aload_n 0 dX11_scan_81 rfl ?_
      refine wp_getI (ci := 8) (j := 44) rfl (by decide) gX11_249 dX11_scan_82 c1 rfl (fun q => ?_)
      have c11 := k.1
      replace k := k.2
      refine wp_isub dX11_scan_85 c11 ?_
      refine wp_iconst dX11_scan_86 ⟨by decide, by decide⟩ ?_
      have c12 := k.1
      replace k := k.2
      refine wp_iadd dX11_scan_87 c12 ?_
      refine wp_putI (ci := 8) (j := 45) rfl (by decide) gX11_252 dX11_scan_88 c1 (Or.inl rfl) rfl ?_
      refine wp_aload_n 0 dX11_scan_91 rfl ?_
      refine wp_getI (ci := 8) (j := 45) rfl (by decide) gX11_252 dX11_scan_92 c1 rfl (fun q => ?_)
      have f13 := q
      replace k := k q
      refine wp_if_gt 108 dX11_scan_95 rfl (fun q => ?_) (fun q => ?_)
      · replace k := k.1 q
        refine wp_aload_n 0 dX11_scan_108 rfl ?_
        refine wp_iconst dX11_scan_109 ⟨by decide, by decide⟩ ?_
        refine wp_callV (ci := 8) (y' := mX11_begins) (st := []) [jI 0] rfl rfl rfl fX11_begins kX11_453 nX11_begins dX11_scan_110 (Nat.le_of_ble_eq_true rfl) c1 ?_
        refine jCall.mono k (fun o h110_1 k => ?_)
        obtain ⟨v110_1, e, k⟩ := k
        subst e
        show jWp (d + 1) mX11_scan 113 [(0, jR a0), (1, jI a1)] [jI v110_1] h110_1 Q
        refine wp_if_ne 124 dX11_scan_113 rfl (fun q => ?_) (fun q => ?_)
        · replace k := k.1 q
          refine wp_iconst dX11_scan_124 ⟨by decide, by decide⟩ ?_
          refine wp_goto 129 dX11_scan_125 rfl ?_
          refine wp_sub [0] (ls' := [(0, jR a0)]) rfl ?_
          exact k
        · replace k := k.2 q
          refine wp_aload_n 0 dX11_scan_116 rfl ?_
          refine wp_iconst dX11_scan_117 ⟨by decide, by decide⟩ ?_
          have c14 := k.1
          replace k := k.2
          refine wp_callV (ci := 8) (y' := mX11_begins) (st := []) [jI 1] rfl rfl rfl fX11_begins kX11_453 nX11_begins dX11_scan_118 (Nat.le_of_ble_eq_true rfl) c14 ?_
          refine jCall.mono k (fun o h118_1 k => ?_)
          obtain ⟨v118_1, e, k⟩ := k
          subst e
          show jWp (d + 1) mX11_scan 121 [(0, jR a0), (1, jI a1)] [jI v118_1] h118_1 Q
          refine wp_if_ne 128 dX11_scan_121 rfl (fun q => ?_) (fun q => ?_)
          · replace k := k.1 q
            refine wp_iconst dX11_scan_128 ⟨by decide, by decide⟩ ?_
            refine wp_sub [0] (ls' := [(0, jR a0)]) rfl ?_
            exact k
          · replace k := k.2 q
            refine wp_iconst dX11_scan_124 ⟨by decide, by decide⟩ ?_
            refine wp_goto 129 dX11_scan_125 rfl ?_
            refine wp_sub [0] (ls' := [(0, jR a0)]) rfl ?_
            exact k
      · replace k := k.2 q
        refine wp_aload_n 0 dX11_scan_98 rfl ?_
        refine wp_bipush dX11_scan_99 ⟨by decide, by decide⟩ ?_
        refine wp_iconst dX11_scan_101 ⟨by decide, by decide⟩ ?_
        refine wp_callV (ci := 8) (y' := mX11_fault) (st := []) [jI 11, jI 0] rfl rfl rfl fX11_fault kX11_304 nX11_fault dX11_scan_102 (Nat.le_of_ble_eq_true rfl) c1 ?_
        refine jCall.mono k (fun o h102_1 k => ?_)
        obtain ⟨v102_1, e, k⟩ := k
        subst e
        show jWp (d + 1) mX11_scan 105 [(0, jR a0), (1, jI a1)] [jI v102_1] h102_1 Q
        refine wp_pop dX11_scan_105 rfl ?_
        refine wp_iconst dX11_scan_106 ⟨by decide, by decide⟩ ?_
        exact wp_iret dX11_scan_107 rfl k
    · replace k := k.2 q
      refine wp_aload_n 0 dX11_scan_66 rfl ?_
      refine wp_dup dX11_scan_67 rfl ?_
      refine wp_getI (ci := 8) (j := 44) rfl (by decide) gX11_249 dX11_scan_68 c1 rfl (fun q => ?_)
      refine wp_iconst dX11_scan_71 ⟨by decide, by decide⟩ ?_
      have c15 := k.1
      replace k := k.2
      refine wp_iadd dX11_scan_72 c15 ?_
      refine wp_putI (ci := 8) (j := 44) rfl (by decide) gX11_249 dX11_scan_73 c1 (Or.inl rfl) rfl ?_
      refine wp_goto 46 dX11_scan_76 rfl ?_
      exact k
theorem bX11_scan_129 {d : Nat} {h : jH} {Q : jO → jH → Prop} {a0 : Nat} {s0 : Int} (k : jOK h → ((s0 ≠ 0 → jWp (d + 1) mX11_scan 140 [(0, jR a0)] [jI 0, jR a0] h Q) ∧ (s0 = 0 → jWp (d + 1) mX11_scan 140 [(0, jR a0)] [jI 1, jR a0] h Q))) : jWp (d + 1) mX11_scan 129 [(0, jR a0)] [jI s0] h Q := by
  refine jw_ok (fun ok q => ?_)
  replace k := k ok 
  refine wp_istore_n [1, 0] (ls' := [(0, jR a0), (2, jI s0)]) dX11_scan_129 (by decide) rfl ?_
  refine wp_aload_n 0 dX11_scan_130 rfl ?_
  refine wp_iload_n 1 dX11_scan_131 rfl ?_
  refine wp_if_ne 139 dX11_scan_132 rfl (fun q => ?_) (fun q => ?_)
  · replace k := k.1 q
    refine wp_iconst dX11_scan_139 ⟨by decide, by decide⟩ ?_
    refine wp_sub [0] (ls' := [(0, jR a0)]) rfl ?_
    exact k
  · replace k := k.2 q
    refine wp_iconst dX11_scan_135 ⟨by decide, by decide⟩ ?_
    refine wp_goto 140 dX11_scan_136 rfl ?_
    refine wp_sub [0] (ls' := [(0, jR a0)]) rfl ?_
    exact k
theorem bX11_scan_140 {d : Nat} {h : jH} {Q : jO → jH → Prop} {a0 : Nat} {s0 : Int} {s1 : Nat} (k : jOK h → hK h s1 = 9 ∧ (0 ≤ s0 ∧ s0 ≤ 1) ∧ hK h a0 = 9 ∧ jCall d mX11_row [jR a0] (sI h 846 s1 s0) (fun o h144 => ∃ v144, o = .inl (some (jI v144)) ∧ ((0 ≤ v144 → ((v144 < 2 → jWp (d + 1) mX11_scan 180 [(0, jR a0), (3, jI v144)] [] h144 Q) ∧ (¬ (v144 < 2) → hK h144 a0 = 9 ∧ j32 (v144 - 1) ∧ jCall d mX11_checkSum [jR (hR h144 847 a0), jI (v144 - 1)] h144 (fun o h166 => ∃ v166, o = .inl (some (jI v166)) ∧ hK h166 a0 = 9 ∧ j32 (v144 - 1) ∧ hK h166 (hR h166 847 a0) = 10 ∧ 0 ≤ (v144 - 1) ∧ (v144 - 1) < hN h166 (hR h166 847 a0) ∧ (j32 (hA h166 (hR h166 847 a0) (v144 - 1)) → ((v166 = (hA h166 (hR h166 847 a0) (v144 - 1)) → ((v144 = 2 → jWp (d + 1) mX11_scan 217 [(0, jR a0)] [] h166 Q) ∧ (¬ (v144 = 2) → 0 ≤ (1 : Int) ∧ 1 < hN h166 (hR h166 847 a0) ∧ (j32 (hA h166 (hR h166 847 a0) 1) → (((hA h166 (hR h166 847 a0) 1) = 102 → j32 (v144 + 1) ∧ (j32 (hI (sI h166 849 a0 (v144 + 1)) 846 a0) → (0 ≤ (hI (sI h166 849 a0 (v144 + 1)) 846 a0) ∧ (hI (sI h166 849 a0 (v144 + 1)) 846 a0) ≤ 1) ∧ jCall d mX11_tells [jR a0, jI v144] (sI (sI h166 849 a0 (v144 + 1)) 851 a0 (hI (sI h166 849 a0 (v144 + 1)) 846 a0)) (fun o h253 => ∃ v253, o = .inl (some (jI v253)) ∧ ((v253 = 0 → jWp (d + 1) mX11_scan 272 [(0, jR a0), (4, jI v253)] [jI 0, jR a0] h253 Q) ∧ (¬ (v253 = 0) → hK h253 a0 = 9 ∧ (j32 (hI h253 821 a0) → jWp (d + 1) mX11_scan 272 [(0, jR a0), (4, jI v253)] [jI (hI h253 821 a0), jR a0] h253 Q)))))) ∧ (¬ ((hA h166 (hR h166 847 a0) 1) = 102) → jWp (d + 1) mX11_scan 217 [(0, jR a0)] [] h166 Q)))))) ∧ (¬ (v166 = (hA h166 (hR h166 847 a0) (v144 - 1))) → jWp (d + 1) mX11_scan 180 [(0, jR a0), (3, jI v144)] [] h166 Q))))))) ∧ (¬ (0 ≤ v144) → Q (.inl (some (jI (-1)))) h144)))) : jWp (d + 1) mX11_scan 140 [(0, jR a0)] [jI s0, jR s1] h Q := by
  refine jw_ok (fun ok q => ?_)
  replace k := k ok 
  have c1 := k.1
  replace k := k.2
  have c2 := k.1
  replace k := k.2
  refine wp_putZ (ci := 8) (j := 46) rfl (by decide) gX11_255 dX11_scan_140 c1 (Or.inl rfl) rfl c2 ?_
  refine wp_aload_n 0 dX11_scan_143 rfl ?_
  have c3 := k.1
  replace k := k.2
  refine wp_callV (ci := 8) (y' := mX11_row) (st := []) [] rfl rfl rfl fX11_row kX11_456 nX11_row dX11_scan_144 (Nat.le_of_ble_eq_true rfl) c3 ?_
  refine jCall.mono k (fun o h144 k => ?_)
  obtain ⟨v144, e, k⟩ := k
  subst e
  show jWp (d + 1) mX11_scan 147 [(0, jR a0)] [jI v144] h144 Q
  refine wp_istore_n [1, 0] (ls' := [(0, jR a0), (3, jI v144)]) dX11_scan_147 (by decide) rfl ?_
  refine wp_iload_n 1 dX11_scan_148 rfl ?_
  refine wp_if_ge 154 dX11_scan_149 rfl (fun q => ?_) (fun q => ?_)
  · replace k := k.1 q
    refine wp_iload_n 1 dX11_scan_154 rfl ?_
    refine wp_iconst dX11_scan_155 ⟨by decide, by decide⟩ ?_
    refine wp_icmp_lt 180 dX11_scan_156 rfl (fun q => ?_) (fun q => ?_)
    · replace k := k.1 q
      exact k
    · replace k := k.2 q
      refine wp_aload_n 0 dX11_scan_159 rfl ?_
      have c4 := k.1
      replace k := k.2
      refine wp_getR (ci := 8) (j := 47) rfl (by decide) gX11_258 dX11_scan_160 c4 rfl ?_
      refine wp_iload_n 1 dX11_scan_163 rfl ?_
      refine wp_iconst dX11_scan_164 ⟨by decide, by decide⟩ ?_
      have c5 := k.1
      replace k := k.2
      refine wp_isub dX11_scan_165 c5 ?_
      refine wp_callS (y' := mX11_checkSum) (st := []) [jR (hR h144 847 a0), jI (v144 - 1)] rfl fX11_checkSum kX11_437 nX11_checkSum dX11_scan_166 (Nat.le_of_ble_eq_true rfl) ?_
      refine jCall.mono k (fun o h166 k => ?_)
      obtain ⟨v166, e, k⟩ := k
      subst e
      show jWp (d + 1) mX11_scan 169 [(0, jR a0), (3, jI v144)] [jI v166] h166 Q
      refine wp_aload_n 0 dX11_scan_169 rfl ?_
      have c6 := k.1
      replace k := k.2
      refine wp_getR (ci := 8) (j := 47) rfl (by decide) gX11_258 dX11_scan_170 c6 rfl ?_
      refine wp_iload_n 1 dX11_scan_173 rfl ?_
      refine wp_iconst dX11_scan_174 ⟨by decide, by decide⟩ ?_
      have c7 := k.1
      replace k := k.2
      refine wp_isub dX11_scan_175 c7 ?_
      have c8 := k.1
      replace k := k.2
      have c9 := k.1
      replace k := k.2
      have c10 := k.1
      replace k := k.2
      refine wp_iaload dX11_scan_176 c8 c9 c10 (fun q => ?_)
      have f11 := q
      replace k := k q
      refine wp_icmp_eq 201 dX11_scan_177 rfl (fun q => ?_) (fun q => ?_)
      · replace k := k.1 q
        refine wp_iload_n 1 dX11_scan_201 rfl ?_
        refine wp_iconst dX11_scan_202 ⟨by decide, by decide⟩ ?_
        refine wp_icmp_eq 217 dX11_scan_203 rfl (fun q => ?_) (fun q => ?_)
        · replace k := k.1 q
          refine wp_sub [0] (ls' := [(0, jR a0)]) rfl ?_
          exact k
        · replace k := k.2 q
          refine wp_aload_n 0 dX11_scan_206 rfl ?_
          refine wp_getR (ci := 8) (j := 47) rfl (by decide) gX11_258 dX11_scan_207 c6 rfl ?_
          refine wp_iconst dX11_scan_210 ⟨by decide, by decide⟩ ?_
          have c12 := k.1
          replace k := k.2
          have c13 := k.1
          replace k := k.2
          refine wp_iaload dX11_scan_211 c8 c12 c13 (fun q => ?_)
          have f14 := q
          replace k := k q
          refine wp_bipush dX11_scan_212 ⟨by decide, by decide⟩ ?_
          refine wp_icmp_eq 236 dX11_scan_214 rfl (fun q => ?_) (fun q => ?_)
          · replace k := k.1 q
            refine wp_aload_n 0 dX11_scan_236 rfl ?_
            refine wp_iload_n 1 dX11_scan_237 rfl ?_
            refine wp_iconst dX11_scan_238 ⟨by decide, by decide⟩ ?_
            have c15 := k.1
            replace k := k.2
            refine wp_iadd dX11_scan_239 c15 ?_
            refine wp_putI (ci := 8) (j := 49) rfl (by decide) gX11_264 dX11_scan_240 c6 (Or.inl rfl) rfl ?_
            refine wp_aload_n 0 dX11_scan_243 rfl ?_
            refine wp_aload_n 0 dX11_scan_244 rfl ?_
            refine wp_getI (ci := 8) (j := 46) rfl (by decide) gX11_255 dX11_scan_245 c6 rfl (fun q => ?_)
            have f16 := q
            replace k := k q
            have c17 := k.1
            replace k := k.2
            refine wp_putZ (ci := 8) (j := 51) rfl (by decide) gX11_270 dX11_scan_248 c6 (Or.inl rfl) rfl c17 ?_
            refine wp_aload_n 0 dX11_scan_251 rfl ?_
            refine wp_iload_n 1 dX11_scan_252 rfl ?_
            refine wp_callV (ci := 8) (y' := mX11_tells) (st := []) [jI v144] rfl rfl rfl fX11_tells kX11_459 nX11_tells dX11_scan_253 (Nat.le_of_ble_eq_true rfl) c6 ?_
            refine jCall.mono k (fun o h253 k => ?_)
            obtain ⟨v253, e, k⟩ := k
            subst e
            show jWp (d + 1) mX11_scan 256 [(0, jR a0), (3, jI v144)] [jI v253] h253 Q
            refine wp_istore [1, 0] (ls' := [(0, jR a0), (4, jI v253)]) dX11_scan_256 (by decide) rfl ?_
            refine wp_aload_n 0 dX11_scan_258 rfl ?_
            refine wp_iload 1 dX11_scan_259 rfl ?_
            refine wp_if_eq 271 dX11_scan_261 rfl (fun q => ?_) (fun q => ?_)
            · replace k := k.1 q
              refine wp_iconst dX11_scan_271 ⟨by decide, by decide⟩ ?_
              exact k
            · replace k := k.2 q
              refine wp_aload_n 0 dX11_scan_264 rfl ?_
              have c18 := k.1
              replace k := k.2
              refine wp_getI (ci := 8) (j := 21) rfl (by decide) gX11_76 dX11_scan_265 c18 rfl (fun q => ?_)
              have f19 := q
              replace k := k q
              refine wp_goto 272 dX11_scan_268 rfl ?_
              exact k
          · replace k := k.2 q
            refine wp_sub [0] (ls' := [(0, jR a0)]) rfl ?_
            exact k
      · replace k := k.2 q
        exact k
  · replace k := k.2 q
    refine wp_iconst dX11_scan_152 ⟨by decide, by decide⟩ ?_
    exact wp_iret dX11_scan_153 rfl k
theorem bX11_scan_180 {d : Nat} {h : jH} {Q : jO → jH → Prop} {a0 : Nat} {a3 : Int} (k : jOK h → j32 a3 → hK h a0 = 9 ∧ j32 (a3 - 1) ∧ hK h (hR h 848 a0) = 10 ∧ 0 ≤ (a3 - 1) ∧ (a3 - 1) < hN h (hR h 848 a0) ∧ (j32 (hA h (hR h 848 a0) (a3 - 1)) → jCall d mX11_placeOf [jR a0, jI (hA h (hR h 848 a0) (a3 - 1))] h (fun o h192 => ∃ v192, o = .inl (some (jI v192)) ∧ hK h192 a0 = 9 ∧ jCall d mX11_fault [jR a0, jI 14, jI v192] h192 (fun o h195 => ∃ v195, o = .inl (some (jI v195)) ∧ Q (.inl (some (jI (-1)))) h195)))) : jWp (d + 1) mX11_scan 180 [(0, jR a0), (3, jI a3)] [] h Q := by
  refine jw_ok (fun ok q => ?_)
  replace k := k ok (q _ (.tail _ (.head _)))
  refine wp_aload_n 0 dX11_scan_180 rfl ?_
  refine wp_bipush dX11_scan_181 ⟨by decide, by decide⟩ ?_
  refine wp_aload_n 0 dX11_scan_183 rfl ?_
  refine wp_aload_n 0 dX11_scan_184 rfl ?_
  have c1 := k.1
  replace k := k.2
  refine wp_getR (ci := 8) (j := 48) rfl (by decide) gX11_261 dX11_scan_185 c1 rfl ?_
  refine wp_iload_n 1 dX11_scan_188 rfl ?_
  refine wp_iconst dX11_scan_189 ⟨by decide, by decide⟩ ?_
  have c2 := k.1
  replace k := k.2
  refine wp_isub dX11_scan_190 c2 ?_
  have c3 := k.1
  replace k := k.2
  have c4 := k.1
  replace k := k.2
  have c5 := k.1
  replace k := k.2
  refine wp_iaload dX11_scan_191 c3 c4 c5 (fun q => ?_)
  have f6 := q
  replace k := k q
  refine wp_callV (ci := 8) (y' := mX11_placeOf) (st := [jI 14, jR a0]) [jI (hA h (hR h 848 a0) (a3 - 1))] rfl rfl rfl fX11_placeOf kX11_444 nX11_placeOf dX11_scan_192 (Nat.le_of_ble_eq_true rfl) c1 ?_
  refine jCall.mono k (fun o h192 k => ?_)
  obtain ⟨v192, e, k⟩ := k
  subst e
  show jWp (d + 1) mX11_scan 195 [(0, jR a0), (3, jI a3)] [jI v192, jI 14, jR a0] h192 Q
  have c7 := k.1
  replace k := k.2
  refine wp_callV (ci := 8) (y' := mX11_fault) (st := []) [jI 14, jI v192] rfl rfl rfl fX11_fault kX11_304 nX11_fault dX11_scan_195 (Nat.le_of_ble_eq_true rfl) c7 ?_
  refine jCall.mono k (fun o h195 k => ?_)
  obtain ⟨v195, e, k⟩ := k
  subst e
  show jWp (d + 1) mX11_scan 198 [(0, jR a0), (3, jI a3)] [jI v195] h195 Q
  refine wp_pop dX11_scan_198 rfl ?_
  refine wp_iconst dX11_scan_199 ⟨by decide, by decide⟩ ?_
  exact wp_iret dX11_scan_200 rfl k
theorem bX11_scan_217 {d : Nat} {h : jH} {Q : jO → jH → Prop} {a0 : Nat} (k : jOK h → hK h a0 = 9 ∧ hK h (hR h 848 a0) = 10 ∧ 0 ≤ (1 : Int) ∧ 1 < hN h (hR h 848 a0) ∧ (j32 (hA h (hR h 848 a0) 1) → jCall d mX11_placeOf [jR a0, jI (hA h (hR h 848 a0) 1)] h (fun o h227 => ∃ v227, o = .inl (some (jI v227)) ∧ hK h227 a0 = 9 ∧ jCall d mX11_fault [jR a0, jI 15, jI v227] h227 (fun o h230 => ∃ v230, o = .inl (some (jI v230)) ∧ Q (.inl (some (jI (-1)))) h230)))) : jWp (d + 1) mX11_scan 217 [(0, jR a0)] [] h Q := by
  refine jw_ok (fun ok q => ?_)
  replace k := k ok 
  refine wp_aload_n 0 dX11_scan_217 rfl ?_
  refine wp_bipush dX11_scan_218 ⟨by decide, by decide⟩ ?_
  refine wp_aload_n 0 dX11_scan_220 rfl ?_
  refine wp_aload_n 0 dX11_scan_221 rfl ?_
  have c1 := k.1
  replace k := k.2
  refine wp_getR (ci := 8) (j := 48) rfl (by decide) gX11_261 dX11_scan_222 c1 rfl ?_
  refine wp_iconst dX11_scan_225 ⟨by decide, by decide⟩ ?_
  have c2 := k.1
  replace k := k.2
  have c3 := k.1
  replace k := k.2
  have c4 := k.1
  replace k := k.2
  refine wp_iaload dX11_scan_226 c2 c3 c4 (fun q => ?_)
  have f5 := q
  replace k := k q
  refine wp_callV (ci := 8) (y' := mX11_placeOf) (st := [jI 15, jR a0]) [jI (hA h (hR h 848 a0) 1)] rfl rfl rfl fX11_placeOf kX11_444 nX11_placeOf dX11_scan_227 (Nat.le_of_ble_eq_true rfl) c1 ?_
  refine jCall.mono k (fun o h227 k => ?_)
  obtain ⟨v227, e, k⟩ := k
  subst e
  show jWp (d + 1) mX11_scan 230 [(0, jR a0)] [jI v227, jI 15, jR a0] h227 Q
  have c6 := k.1
  replace k := k.2
  refine wp_callV (ci := 8) (y' := mX11_fault) (st := []) [jI 15, jI v227] rfl rfl rfl fX11_fault kX11_304 nX11_fault dX11_scan_230 (Nat.le_of_ble_eq_true rfl) c6 ?_
  refine jCall.mono k (fun o h230 k => ?_)
  obtain ⟨v230, e, k⟩ := k
  subst e
  show jWp (d + 1) mX11_scan 233 [(0, jR a0)] [jI v230] h230 Q
  refine wp_pop dX11_scan_233 rfl ?_
  refine wp_iconst dX11_scan_234 ⟨by decide, by decide⟩ ?_
  exact wp_iret dX11_scan_235 rfl k
theorem bX11_scan_272 {d : Nat} {h : jH} {Q : jO → jH → Prop} {a0 : Nat} {a4 : Int} {s0 : Int} {s1 : Nat} (k : jOK h → j32 a4 → hK h s1 = 9 ∧ ((a4 = 0 → jWp (d + 1) mX11_scan 290 [] [jI (-1)] (sI h 850 s1 s0) Q) ∧ (¬ (a4 = 0) → hK h a0 = 9 ∧ jCall d mX11_taken [jR a0, jI 0, jI 0] (sI h 850 s1 s0) (fun o h283 => ∃ v283, o = .inl (some (jI v283)) ∧ jWp (d + 1) mX11_scan 290 [] [jI v283] h283 Q)))) : jWp (d + 1) mX11_scan 272 [(0, jR a0), (4, jI a4)] [jI s0, jR s1] h Q := by
  refine jw_ok (fun ok q => ?_)
  replace k := k ok (q _ (.tail _ (.head _)))
  have c1 := k.1
  replace k := k.2
  refine wp_putI (ci := 8) (j := 50) rfl (by decide) gX11_267 dX11_scan_272 c1 (Or.inl rfl) rfl ?_
  refine wp_iload 1 dX11_scan_275 rfl ?_
  refine wp_if_eq 289 dX11_scan_277 rfl (fun q => ?_) (fun q => ?_)
  · replace k := k.1 q
    refine wp_iconst dX11_scan_289 ⟨by decide, by decide⟩ ?_
    refine wp_sub [] (ls' := []) rfl ?_
    exact k
  · replace k := k.2 q
    refine wp_aload_n 0 dX11_scan_280 rfl ?_
    refine wp_iconst dX11_scan_281 ⟨by decide, by decide⟩ ?_
    refine wp_iconst dX11_scan_282 ⟨by decide, by decide⟩ ?_
    have c2 := k.1
    replace k := k.2
    refine wp_callV (ci := 8) (y' := mX11_taken) (st := []) [jI 0, jI 0] rfl rfl rfl fX11_taken kX11_383 nX11_taken dX11_scan_283 (Nat.le_of_ble_eq_true rfl) c2 ?_
    refine jCall.mono k (fun o h283 k => ?_)
    obtain ⟨v283, e, k⟩ := k
    subst e
    show jWp (d + 1) mX11_scan 286 [(0, jR a0), (4, jI a4)] [jI v283] h283 Q
    refine wp_goto 290 dX11_scan_286 rfl ?_
    refine wp_sub [] (ls' := []) rfl ?_
    exact k
theorem bX11_scan_290 {d : Nat} {h : jH} {Q : jO → jH → Prop} {s0 : Int} (k : jOK h → Q (.inl (some (jI s0))) h) : jWp (d + 1) mX11_scan 290 [] [jI s0] h Q := by
  refine jw_ok (fun ok q => ?_)
  replace k := k ok 
  exact wp_iret dX11_scan_290 rfl k
theorem bX11_byteOf {d : Nat} {h : jH} {Q : jO → jH → Prop} {a0 : Int} {a1 : Int} (k : jOK h → j32 a0 → j32 a1 → ((a0 ≠ 0 → ((96 ≤ a1 → Q (.inl (some (jI (-1)))) h) ∧ (¬ (96 ≤ a1) → j32 (a1 + 32) ∧ Q (.inl (some (jI (a1 + 32)))) h))) ∧ (a0 = 0 → ((64 ≤ a1 → Q (.inl (some (jI (-1)))) h) ∧ (¬ (64 ≤ a1) → j32 (a1 + 32) ∧ Q (.inl (some (jI (a1 + 32)))) h))))) : jCall d mX11_byteOf [jI a0, jI a1] h Q := by
  refine jCall_of plX11 (Nat.le_of_ble_eq_true rfl) ?_
  show jWp d mX11_byteOf 0 [(0, jI a0), (1, jI a1)] [] h Q
  refine jw_ok (fun ok q => ?_)
  replace k := k ok (q _ (.head _)) (q _ (.tail _ (.head _)))
  refine wp_iload_n 0 dX11_byteOf_0 rfl ?_
  refine wp_if_ne 19 dX11_byteOf_1 rfl (fun q => ?_) (fun q => ?_)
  · replace k := k.1 q
    refine wp_iload_n 1 dX11_byteOf_19 rfl ?_
    refine wp_bipush dX11_byteOf_20 ⟨by decide, by decide⟩ ?_
    refine wp_icmp_ge 32 dX11_byteOf_22 rfl (fun q => ?_) (fun q => ?_)
    · replace k := k.1 q
      refine wp_iconst dX11_byteOf_32 ⟨by decide, by decide⟩ ?_
      exact wp_iret dX11_byteOf_33 rfl k
    · replace k := k.2 q
      refine wp_iload_n 1 dX11_byteOf_25 rfl ?_
      refine wp_bipush dX11_byteOf_26 ⟨by decide, by decide⟩ ?_
      have c1 := k.1
      replace k := k.2
      refine wp_iadd dX11_byteOf_28 c1 ?_
      refine wp_goto 33 dX11_byteOf_29 rfl ?_
      exact wp_iret dX11_byteOf_33 rfl k
  · replace k := k.2 q
    refine wp_iload_n 1 dX11_byteOf_4 rfl ?_
    refine wp_bipush dX11_byteOf_5 ⟨by decide, by decide⟩ ?_
    refine wp_icmp_ge 17 dX11_byteOf_7 rfl (fun q => ?_) (fun q => ?_)
    · replace k := k.1 q
      refine wp_iconst dX11_byteOf_17 ⟨by decide, by decide⟩ ?_
      exact wp_iret dX11_byteOf_18 rfl k
    · replace k := k.2 q
      refine wp_iload_n 1 dX11_byteOf_10 rfl ?_
      refine wp_bipush dX11_byteOf_11 ⟨by decide, by decide⟩ ?_
      have c2 := k.1
      replace k := k.2
      refine wp_iadd dX11_byteOf_13 c2 ?_
      refine wp_goto 18 dX11_byteOf_14 rfl ?_
      exact wp_iret dX11_byteOf_18 rfl k
theorem bX11_tell {d : Nat} {h : jH} {Q : jO → jH → Prop} {a0 : Nat} {a1 : Int} (k : jOK h → j32 a1 → hK h a0 = 9 ∧ (j32 (hI h 821 a0) → hK h (hR h 820 a0) = 11 ∧ 0 ≤ (hI h 821 a0) ∧ (hI h 821 a0) < hN h (hR h 820 a0) ∧ j32 ((hI h 821 a0) + 1) ∧ Q (.inl none) (sI (sA h (hR h 820 a0) (hI h 821 a0) ((a1 + 128) % 256 - 128)) 821 a0 ((hI h 821 a0) + 1)))) : jCall d mX11_tell [jR a0, jI a1] h Q := by
  refine jCall_of plX11 (Nat.le_of_ble_eq_true rfl) ?_
  show jWp d mX11_tell 0 [(0, jR a0), (1, jI a1)] [] h Q
  refine jw_ok (fun ok q => ?_)
  replace k := k ok (q _ (.tail _ (.head _)))
  refine wp_aload_n 0 dX11_tell_0 rfl ?_
  have c1 := k.1
  replace k := k.2
  refine wp_getR (ci := 8) (j := 20) rfl (by decide) gX11_73 dX11_tell_1 c1 rfl ?_
  refine wp_aload_n 0 dX11_tell_4 rfl ?_
  refine wp_getI (ci := 8) (j := 21) rfl (by decide) gX11_76 dX11_tell_5 c1 rfl (fun q => ?_)
  have f2 := q
  replace k := k q
  refine wp_iload_n 1 dX11_tell_8 rfl ?_
  refine wp_i2b dX11_tell_9 ?_
  have c3 := k.1
  replace k := k.2
  have c4 := k.1
  replace k := k.2
  have c5 := k.1
  replace k := k.2
  refine wp_bastore dX11_tell_10 c3 c4 c5 ⟨by omega, by omega⟩ ?_
  refine wp_aload_n 0 dX11_tell_11 rfl ?_
  refine wp_dup dX11_tell_12 rfl ?_
  refine wp_getI (ci := 8) (j := 21) rfl (by decide) gX11_76 dX11_tell_13 c1 rfl (fun q => ?_)
  refine wp_iconst dX11_tell_16 ⟨by decide, by decide⟩ ?_
  have c6 := k.1
  replace k := k.2
  refine wp_iadd dX11_tell_17 c6 ?_
  refine wp_putI (ci := 8) (j := 21) rfl (by decide) gX11_76 dX11_tell_18 c1 (Or.inl rfl) rfl ?_
  exact wp_return dX11_tell_21 rfl k
theorem bX11_tells {d : Nat} {h : jH} {Q : jO → jH → Prop} {a0 : Nat} {a1 : Int} (k : jOK h → j32 a1 → hK h a0 = 9 ∧ hK h (hR h 847 a0) = 10 ∧ 0 ≤ (0 : Int) ∧ 0 < hN h (hR h 847 a0) ∧ (j32 (hA h (hR h 847 a0) 0) → j32 ((hA h (hR h 847 a0) 0) - 103) ∧ jWp (d + 1) mX11_tells 17 [(0, jR a0), (1, jI a1), (2, jI ((hA h (hR h 847 a0) 0) - 103)), (3, jI 2)] [] (sI h 821 a0 0) Q)) : jCall (d + 1) mX11_tells [jR a0, jI a1] h Q := by
  refine jCall_of plX11 (Nat.le_of_ble_eq_true rfl) ?_
  show jWp (d + 1) mX11_tells 0 [(0, jR a0), (1, jI a1)] [] h Q
  refine jw_ok (fun ok q => ?_)
  replace k := k ok (q _ (.tail _ (.head _)))
  refine wp_aload_n 0 dX11_tells_0 rfl ?_
  have c1 := k.1
  replace k := k.2
  refine wp_getR (ci := 8) (j := 47) rfl (by decide) gX11_258 dX11_tells_1 c1 rfl ?_
  refine wp_iconst dX11_tells_4 ⟨by decide, by decide⟩ ?_
  have c2 := k.1
  replace k := k.2
  have c3 := k.1
  replace k := k.2
  have c4 := k.1
  replace k := k.2
  refine wp_iaload dX11_tells_5 c2 c3 c4 (fun q => ?_)
  have f5 := q
  replace k := k q
  refine wp_bipush dX11_tells_6 ⟨by decide, by decide⟩ ?_
  have c6 := k.1
  replace k := k.2
  refine wp_isub dX11_tells_8 c6 ?_
  refine wp_istore_n [1, 2, 0] (ls' := [(0, jR a0), (1, jI a1), (2, jI ((hA h (hR h 847 a0) 0) - 103))]) dX11_tells_9 (by decide) rfl ?_
  refine wp_aload_n 0 dX11_tells_10 rfl ?_
  refine wp_iconst dX11_tells_11 ⟨by decide, by decide⟩ ?_
  refine wp_putI (ci := 8) (j := 21) rfl (by decide) gX11_76 dX11_tells_12 c1 (Or.inl rfl) rfl ?_
  refine wp_iconst dX11_tells_15 ⟨by decide, by decide⟩ ?_
  refine wp_istore_n [1, 2, 3, 0] (ls' := [(0, jR a0), (1, jI a1), (2, jI ((hA h (hR h 847 a0) 0) - 103)), (3, jI 2)]) dX11_tells_16 (by decide) rfl ?_
  exact k
theorem bX11_tells_17 {d : Nat} {h : jH} {Q : jO → jH → Prop} {a0 : Nat} {a1 : Int} {a2 : Int} {a3 : Int} (k : jOK h → j32 a1 → j32 a2 → j32 a3 → j32 (a1 - 1) ∧ (((a1 - 1) ≤ a3 → Q (.inl (some (jI 1))) h) ∧ (¬ ((a1 - 1) ≤ a3) → hK h a0 = 9 ∧ hK h (hR h 847 a0) = 10 ∧ 0 ≤ a3 ∧ a3 < hN h (hR h 847 a0) ∧ (j32 (hA h (hR h 847 a0) a3) → (((hA h (hR h 847 a0) a3) ≠ 102 → ((a2 ≠ 2 → ((2 ≤ a2 → jWp (d + 1) mX11_tells 114 [(0, jR a0), (1, jI a1), (2, jI a2), (3, jI a3), (4, jI (hA h (hR h 847 a0) a3))] [] h Q) ∧ (¬ (2 ≤ a2) → jCall d mX11_byteOf [jI a2, jI (hA h (hR h 847 a0) a3)] h (fun o h95 => ∃ v95, o = .inl (some (jI v95)) ∧ ((v95 < 0 → jWp (d + 1) mX11_tells 114 [(0, jR a0), (1, jI a1), (2, jI a2), (3, jI a3), (4, jI (hA h (hR h 847 a0) a3))] [] h95 Q) ∧ (¬ (v95 < 0) → jCall d mX11_byteOf [jI a2, jI (hA h (hR h 847 a0) a3)] h95 (fun o h105 => ∃ v105, o = .inl (some (jI v105)) ∧ hK h105 a0 = 9 ∧ jCall d mX11_tell [jR a0, jI v105] h105 (fun o h108 => o = .inl none ∧ jWp (d + 1) mX11_tells 241 [(0, jR a0), (1, jI a1), (2, jI a2), (3, jI a3)] [] h108 Q)))))))) ∧ (a2 = 2 → ((100 ≤ (hA h (hR h 847 a0) a3) → ((2 ≤ a2 → jWp (d + 1) mX11_tells 114 [(0, jR a0), (1, jI a1), (2, jI a2), (3, jI a3), (4, jI (hA h (hR h 847 a0) a3))] [] h Q) ∧ (¬ (2 ≤ a2) → jCall d mX11_byteOf [jI a2, jI (hA h (hR h 847 a0) a3)] h (fun o h95_1 => ∃ v95_1, o = .inl (some (jI v95_1)) ∧ ((v95_1 < 0 → jWp (d + 1) mX11_tells 114 [(0, jR a0), (1, jI a1), (2, jI a2), (3, jI a3), (4, jI (hA h (hR h 847 a0) a3))] [] h95_1 Q) ∧ (¬ (v95_1 < 0) → jCall d mX11_byteOf [jI a2, jI (hA h (hR h 847 a0) a3)] h95_1 (fun o h105_1 => ∃ v105_1, o = .inl (some (jI v105_1)) ∧ hK h105_1 a0 = 9 ∧ jCall d mX11_tell [jR a0, jI v105_1] h105_1 (fun o h108_1 => o = .inl none ∧ jWp (d + 1) mX11_tells 241 [(0, jR a0), (1, jI a1), (2, jI a2), (3, jI a3)] [] h108_1 Q)))))))) ∧ (¬ (100 ≤ (hA h (hR h 847 a0) a3)) → 0 ≤ (hA h (hR h 847 a0) a3) ∧ j32 (48 + ((hA h (hR h 847 a0) a3) / 10)) ∧ jCall d mX11_tell [jR a0, jI (48 + ((hA h (hR h 847 a0) a3) / 10))] h (fun o h69 => o = .inl none ∧ 0 ≤ (hA h (hR h 847 a0) a3) ∧ j32 (48 + ((hA h (hR h 847 a0) a3) % 10)) ∧ hK h69 a0 = 9 ∧ jCall d mX11_tell [jR a0, jI (48 + ((hA h (hR h 847 a0) a3) % 10))] h69 (fun o h81 => o = .inl none ∧ jWp (d + 1) mX11_tells 241 [(0, jR a0), (1, jI a1), (2, jI a2), (3, jI a3)] [] h81 Q))))))) ∧ ((hA h (hR h 847 a0) a3) = 102 → jCall d mX11_tell [jR a0, jI 29] h (fun o h42 => o = .inl none ∧ jWp (d + 1) mX11_tells 241 [(0, jR a0), (1, jI a1), (2, jI a2), (3, jI a3)] [] h42 Q))))))) : jWp (d + 1) mX11_tells 17 [(0, jR a0), (1, jI a1), (2, jI a2), (3, jI a3)] [] h Q := by
  refine jw_ok (fun ok q => ?_)
  replace k := k ok (q _ (.tail _ (.head _))) (q _ (.tail _ (.tail _ (.head _)))) (q _ (.tail _ (.tail _ (.tail _ (.head _)))))
  refine wp_iload_n 3 dX11_tells_17 rfl ?_
  refine wp_iload_n 1 dX11_tells_18 rfl ?_
  refine wp_iconst dX11_tells_19 ⟨by decide, by decide⟩ ?_
  have c1 := k.1
  replace k := k.2
  refine wp_isub dX11_tells_20 c1 ?_
  refine wp_icmp_ge 247 dX11_tells_21 rfl (fun q => ?_) (fun q => ?_)
  · replace k := k.1 q
    refine wp_iconst dX11_tells_247 ⟨by decide, by decide⟩ ?_
    exact wp_zreturn dX11_tells_248 rfl (by decide) (by decide) k
  · replace k := k.2 q
    refine wp_aload_n 0 dX11_tells_24 rfl ?_
    have c2 := k.1
    replace k := k.2
    refine wp_getR (ci := 8) (j := 47) rfl (by decide) gX11_258 dX11_tells_25 c2 rfl ?_
    refine wp_iload_n 3 dX11_tells_28 rfl ?_
    have c3 := k.1
    replace k := k.2
    have c4 := k.1
    replace k := k.2
    have c5 := k.1
    replace k := k.2
    refine wp_iaload dX11_tells_29 c3 c4 c5 (fun q => ?_)
    have f6 := q
    replace k := k q
    refine wp_istore [1, 2, 3, 4, 0] (ls' := [(0, jR a0), (1, jI a1), (2, jI a2), (3, jI a3), (4, jI (hA h (hR h 847 a0) a3))]) dX11_tells_30 (by decide) rfl ?_
    refine wp_iload 4 dX11_tells_32 rfl ?_
    refine wp_bipush dX11_tells_34 ⟨by decide, by decide⟩ ?_
    refine wp_icmp_ne 48 dX11_tells_36 rfl (fun q => ?_) (fun q => ?_)
    · replace k := k.1 q
      refine wp_iload_n 2 dX11_tells_48 rfl ?_
      refine wp_iconst dX11_tells_49 ⟨by decide, by decide⟩ ?_
      refine wp_icmp_ne 87 dX11_tells_50 rfl (fun q => ?_) (fun q => ?_)
      · replace k := k.1 q
        refine wp_iload_n 2 dX11_tells_87 rfl ?_
        refine wp_iconst dX11_tells_88 ⟨by decide, by decide⟩ ?_
        refine wp_icmp_ge 114 dX11_tells_89 rfl (fun q => ?_) (fun q => ?_)
        · replace k := k.1 q
          exact k
        · replace k := k.2 q
          refine wp_iload_n 2 dX11_tells_92 rfl ?_
          refine wp_iload 4 dX11_tells_93 rfl ?_
          refine wp_callS (y' := mX11_byteOf) (st := []) [jI a2, jI (hA h (hR h 847 a0) a3)] rfl fX11_byteOf kX11_465 nX11_byteOf dX11_tells_95 (Nat.le_of_ble_eq_true rfl) ?_
          refine jCall.mono k (fun o h95 k => ?_)
          obtain ⟨v95, e, k⟩ := k
          subst e
          show jWp (d + 1) mX11_tells 98 [(0, jR a0), (1, jI a1), (2, jI a2), (3, jI a3), (4, jI (hA h (hR h 847 a0) a3))] [jI v95] h95 Q
          refine wp_if_lt 114 dX11_tells_98 rfl (fun q => ?_) (fun q => ?_)
          · replace k := k.1 q
            exact k
          · replace k := k.2 q
            refine wp_aload_n 0 dX11_tells_101 rfl ?_
            refine wp_iload_n 2 dX11_tells_102 rfl ?_
            refine wp_iload 4 dX11_tells_103 rfl ?_
            refine wp_callS (y' := mX11_byteOf) (st := [jR a0]) [jI a2, jI (hA h (hR h 847 a0) a3)] rfl fX11_byteOf kX11_465 nX11_byteOf dX11_tells_105 (Nat.le_of_ble_eq_true rfl) ?_
            refine jCall.mono k (fun o h105 k => ?_)
            obtain ⟨v105, e, k⟩ := k
            subst e
            show jWp (d + 1) mX11_tells 108 [(0, jR a0), (1, jI a1), (2, jI a2), (3, jI a3), (4, jI (hA h (hR h 847 a0) a3))] [jI v105, jR a0] h105 Q
            have c7 := k.1
            replace k := k.2
            refine wp_callV (ci := 8) (y' := mX11_tell) (st := []) [jI v105] rfl rfl rfl fX11_tell kX11_462 nX11_tell dX11_tells_108 (Nat.le_of_ble_eq_true rfl) c7 ?_
            refine jCall.mono k (fun o h108 k => ?_)
            obtain ⟨e, k⟩ := k
            subst e
            show jWp (d + 1) mX11_tells 111 [(0, jR a0), (1, jI a1), (2, jI a2), (3, jI a3), (4, jI (hA h (hR h 847 a0) a3))] [] h108 Q
            refine wp_goto 241 dX11_tells_111 rfl ?_
            refine wp_sub [0, 1, 2, 3] (ls' := [(0, jR a0), (1, jI a1), (2, jI a2), (3, jI a3)]) rfl ?_
            exact k
      · replace k := k.2 q
        refine wp_iload 4 dX11_tells_53 rfl ?_
        refine wp_bipush dX11_tells_55 ⟨by decide, by decide⟩ ?_
        refine wp_icmp_ge 87 dX11_tells_57 rfl (fun q => ?_) (fun q => ?_)
        · replace k := k.1 q
          refine wp_iload_n 2 dX11_tells_87 rfl ?_
          refine wp_iconst dX11_tells_88 ⟨by decide, by decide⟩ ?_
          refine wp_icmp_ge 114 dX11_tells_89 rfl (fun q => ?_) (fun q => ?_)
          · replace k := k.1 q
            exact k
          · replace k := k.2 q
            refine wp_iload_n 2 dX11_tells_92 rfl ?_
            refine wp_iload 4 dX11_tells_93 rfl ?_
            refine wp_callS (y' := mX11_byteOf) (st := []) [jI a2, jI (hA h (hR h 847 a0) a3)] rfl fX11_byteOf kX11_465 nX11_byteOf dX11_tells_95 (Nat.le_of_ble_eq_true rfl) ?_
            refine jCall.mono k (fun o h95_1 k => ?_)
            obtain ⟨v95_1, e, k⟩ := k
            subst e
            show jWp (d + 1) mX11_tells 98 [(0, jR a0), (1, jI a1), (2, jI a2), (3, jI a3), (4, jI (hA h (hR h 847 a0) a3))] [jI v95_1] h95_1 Q
            refine wp_if_lt 114 dX11_tells_98 rfl (fun q => ?_) (fun q => ?_)
            · replace k := k.1 q
              exact k
            · replace k := k.2 q
              refine wp_aload_n 0 dX11_tells_101 rfl ?_
              refine wp_iload_n 2 dX11_tells_102 rfl ?_
              refine wp_iload 4 dX11_tells_103 rfl ?_
              refine wp_callS (y' := mX11_byteOf) (st := [jR a0]) [jI a2, jI (hA h (hR h 847 a0) a3)] rfl fX11_byteOf kX11_465 nX11_byteOf dX11_tells_105 (Nat.le_of_ble_eq_true rfl) ?_
              refine jCall.mono k (fun o h105_1 k => ?_)
              obtain ⟨v105_1, e, k⟩ := k
              subst e
              show jWp (d + 1) mX11_tells 108 [(0, jR a0), (1, jI a1), (2, jI a2), (3, jI a3), (4, jI (hA h (hR h 847 a0) a3))] [jI v105_1, jR a0] h105_1 Q
              have c8 := k.1
              replace k := k.2
              refine wp_callV (ci := 8) (y' := mX11_tell) (st := []) [jI v105_1] rfl rfl rfl fX11_tell kX11_462 nX11_tell dX11_tells_108 (Nat.le_of_ble_eq_true rfl) c8 ?_
              refine jCall.mono k (fun o h108_1 k => ?_)
              obtain ⟨e, k⟩ := k
              subst e
              show jWp (d + 1) mX11_tells 111 [(0, jR a0), (1, jI a1), (2, jI a2), (3, jI a3), (4, jI (hA h (hR h 847 a0) a3))] [] h108_1 Q
              refine wp_goto 241 dX11_tells_111 rfl ?_
              refine wp_sub [0, 1, 2, 3] (ls' := [(0, jR a0), (1, jI a1), (2, jI a2), (3, jI a3)]) rfl ?_
              exact k
        · replace k := k.2 q
          refine wp_aload_n 0 dX11_tells_60 rfl ?_
          refine wp_bipush dX11_tells_61 ⟨by decide, by decide⟩ ?_
          refine wp_iload 4 dX11_tells_63 rfl ?_
          refine wp_bipush dX11_tells_65 ⟨by decide, by decide⟩ ?_
          have c9 := k.1
          replace k := k.2
          refine wp_idiv dX11_tells_67 c9 (by decide) ?_
          have c10 := k.1
          replace k := k.2
          refine wp_iadd dX11_tells_68 c10 ?_
          refine wp_callV (ci := 8) (y' := mX11_tell) (st := []) [jI (48 + ((hA h (hR h 847 a0) a3) / 10))] rfl rfl rfl fX11_tell kX11_462 nX11_tell dX11_tells_69 (Nat.le_of_ble_eq_true rfl) c2 ?_
          refine jCall.mono k (fun o h69 k => ?_)
          obtain ⟨e, k⟩ := k
          subst e
          show jWp (d + 1) mX11_tells 72 [(0, jR a0), (1, jI a1), (2, jI a2), (3, jI a3), (4, jI (hA h (hR h 847 a0) a3))] [] h69 Q
          refine wp_aload_n 0 dX11_tells_72 rfl ?_
          refine wp_bipush dX11_tells_73 ⟨by decide, by decide⟩ ?_
          refine wp_iload 4 dX11_tells_75 rfl ?_
          refine wp_bipush dX11_tells_77 ⟨by decide, by decide⟩ ?_
          have c11 := k.1
          replace k := k.2
          refine wp_irem dX11_tells_79 c11 (by decide) ?_
          have c12 := k.1
          replace k := k.2
          refine wp_iadd dX11_tells_80 c12 ?_
          have c13 := k.1
          replace k := k.2
          refine wp_callV (ci := 8) (y' := mX11_tell) (st := []) [jI (48 + ((hA h (hR h 847 a0) a3) % 10))] rfl rfl rfl fX11_tell kX11_462 nX11_tell dX11_tells_81 (Nat.le_of_ble_eq_true rfl) c13 ?_
          refine jCall.mono k (fun o h81 k => ?_)
          obtain ⟨e, k⟩ := k
          subst e
          show jWp (d + 1) mX11_tells 84 [(0, jR a0), (1, jI a1), (2, jI a2), (3, jI a3), (4, jI (hA h (hR h 847 a0) a3))] [] h81 Q
          refine wp_goto 241 dX11_tells_84 rfl ?_
          refine wp_sub [0, 1, 2, 3] (ls' := [(0, jR a0), (1, jI a1), (2, jI a2), (3, jI a3)]) rfl ?_
          exact k
    · replace k := k.2 q
      refine wp_aload_n 0 dX11_tells_39 rfl ?_
      refine wp_bipush dX11_tells_40 ⟨by decide, by decide⟩ ?_
      refine wp_callV (ci := 8) (y' := mX11_tell) (st := []) [jI 29] rfl rfl rfl fX11_tell kX11_462 nX11_tell dX11_tells_42 (Nat.le_of_ble_eq_true rfl) c2 ?_
      refine jCall.mono k (fun o h42 k => ?_)
      obtain ⟨e, k⟩ := k
      subst e
      show jWp (d + 1) mX11_tells 45 [(0, jR a0), (1, jI a1), (2, jI a2), (3, jI a3), (4, jI (hA h (hR h 847 a0) a3))] [] h42 Q
      refine wp_goto 241 dX11_tells_45 rfl ?_
      refine wp_sub [0, 1, 2, 3] (ls' := [(0, jR a0), (1, jI a1), (2, jI a2), (3, jI a3)]) rfl ?_
      exact k
theorem bX11_tells_114 {d : Nat} {h : jH} {Q : jO → jH → Prop} {a0 : Nat} {a1 : Int} {a2 : Int} {a3 : Int} {a4 : Int} (k : jOK h → j32 a1 → j32 a2 → j32 a3 → j32 a4 → ((2 ≤ a2 → jWp (d + 1) mX11_tells 174 [(0, jR a0), (1, jI a1), (2, jI a2), (3, jI a3), (4, jI a4)] [] h Q) ∧ (¬ (2 ≤ a2) → ((a4 ≠ 98 → jWp (d + 1) mX11_tells 174 [(0, jR a0), (1, jI a1), (2, jI a2), (3, jI a3), (4, jI a4)] [] h Q) ∧ (a4 = 98 → j32 (a3 + 1) ∧ j32 (a1 - 1) ∧ (((a1 - 1) ≤ (a3 + 1) → jWp (d + 1) mX11_tells 174 [(0, jR a0), (1, jI a1), (2, jI a2), (3, jI a3), (4, jI a4)] [] h Q) ∧ (¬ ((a1 - 1) ≤ (a3 + 1)) → j32 (1 - a2) ∧ hK h a0 = 9 ∧ hK h (hR h 847 a0) = 10 ∧ 0 ≤ (a3 + 1) ∧ (a3 + 1) < hN h (hR h 847 a0) ∧ (j32 (hA h (hR h 847 a0) (a3 + 1)) → jCall d mX11_byteOf [jI (1 - a2), jI (hA h (hR h 847 a0) (a3 + 1))] h (fun o h146 => ∃ v146, o = .inl (some (jI v146)) ∧ ((v146 < 0 → jWp (d + 1) mX11_tells 174 [(0, jR a0), (1, jI a1), (2, jI a2), (3, jI a3), (4, jI a4)] [] h146 Q) ∧ (¬ (v146 < 0) → j32 (a3 + 1) ∧ j32 (1 - a2) ∧ hK h146 a0 = 9 ∧ hK h146 (hR h146 847 a0) = 10 ∧ 0 ≤ (a3 + 1) ∧ (a3 + 1) < hN h146 (hR h146 847 a0) ∧ (j32 (hA h146 (hR h146 847 a0) (a3 + 1)) → jCall d mX11_byteOf [jI (1 - a2), jI (hA h146 (hR h146 847 a0) (a3 + 1))] h146 (fun o h165 => ∃ v165, o = .inl (some (jI v165)) ∧ hK h165 a0 = 9 ∧ jCall d mX11_tell [jR a0, jI v165] h165 (fun o h168 => o = .inl none ∧ jWp (d + 1) mX11_tells 241 [(0, jR a0), (1, jI a1), (2, jI a2), (3, jI (a3 + 1))] [] h168 Q)))))))))))))) : jWp (d + 1) mX11_tells 114 [(0, jR a0), (1, jI a1), (2, jI a2), (3, jI a3), (4, jI a4)] [] h Q := by
  refine jw_ok (fun ok q => ?_)
  replace k := k ok (q _ (.tail _ (.head _))) (q _ (.tail _ (.tail _ (.head _)))) (q _ (.tail _ (.tail _ (.tail _ (.head _))))) (q _ (.tail _ (.tail _ (.tail _ (.tail _ (.head _))))))
  refine wp_iload_n 2 dX11_tells_114 rfl ?_
  refine wp_iconst dX11_tells_115 ⟨by decide, by decide⟩ ?_
  refine wp_icmp_ge 174 dX11_tells_116 rfl (fun q => ?_) (fun q => ?_)
  · replace k := k.1 q
    exact k
  · replace k := k.2 q
    refine wp_iload 4 dX11_tells_119 rfl ?_
    refine wp_bipush dX11_tells_121 ⟨by decide, by decide⟩ ?_
    refine wp_icmp_ne 174 dX11_tells_123 rfl (fun q => ?_) (fun q => ?_)
    · replace k := k.1 q
      exact k
    · replace k := k.2 q
      refine wp_iload_n 3 dX11_tells_126 rfl ?_
      refine wp_iconst dX11_tells_127 ⟨by decide, by decide⟩ ?_
      have c1 := k.1
      replace k := k.2
      refine wp_iadd dX11_tells_128 c1 ?_
      refine wp_iload_n 1 dX11_tells_129 rfl ?_
      refine wp_iconst dX11_tells_130 ⟨by decide, by decide⟩ ?_
      have c2 := k.1
      replace k := k.2
      refine wp_isub dX11_tells_131 c2 ?_
      refine wp_icmp_ge 174 dX11_tells_132 rfl (fun q => ?_) (fun q => ?_)
      · replace k := k.1 q
        exact k
      · replace k := k.2 q
        refine wp_iconst dX11_tells_135 ⟨by decide, by decide⟩ ?_
        refine wp_iload_n 2 dX11_tells_136 rfl ?_
        have c3 := k.1
        replace k := k.2
        refine wp_isub dX11_tells_137 c3 ?_
        refine wp_aload_n 0 dX11_tells_138 rfl ?_
        have c4 := k.1
        replace k := k.2
        refine wp_getR (ci := 8) (j := 47) rfl (by decide) gX11_258 dX11_tells_139 c4 rfl ?_
        refine wp_iload_n 3 dX11_tells_142 rfl ?_
        refine wp_iconst dX11_tells_143 ⟨by decide, by decide⟩ ?_
        refine wp_iadd dX11_tells_144 c1 ?_
        have c5 := k.1
        replace k := k.2
        have c6 := k.1
        replace k := k.2
        have c7 := k.1
        replace k := k.2
        refine wp_iaload dX11_tells_145 c5 c6 c7 (fun q => ?_)
        have f8 := q
        replace k := k q
        refine wp_callS (y' := mX11_byteOf) (st := []) [jI (1 - a2), jI (hA h (hR h 847 a0) (a3 + 1))] rfl fX11_byteOf kX11_465 nX11_byteOf dX11_tells_146 (Nat.le_of_ble_eq_true rfl) ?_
        refine jCall.mono k (fun o h146 k => ?_)
        obtain ⟨v146, e, k⟩ := k
        subst e
        show jWp (d + 1) mX11_tells 149 [(0, jR a0), (1, jI a1), (2, jI a2), (3, jI a3), (4, jI a4)] [jI v146] h146 Q
        refine wp_if_lt 174 dX11_tells_149 rfl (fun q => ?_) (fun q => ?_)
        · replace k := k.1 q
          exact k
        · replace k := k.2 q
          have c9 := k.1
          replace k := k.2
          refine wp_iinc 3 [1, 2, 3, 0] (ls' := [(0, jR a0), (1, jI a1), (2, jI a2), (3, jI (a3 + 1))]) dX11_tells_152 rfl c9 ⟨by decide, by decide⟩ (by decide) rfl ?_
          refine wp_aload_n 0 dX11_tells_155 rfl ?_
          refine wp_iconst dX11_tells_156 ⟨by decide, by decide⟩ ?_
          refine wp_iload_n 2 dX11_tells_157 rfl ?_
          have c10 := k.1
          replace k := k.2
          refine wp_isub dX11_tells_158 c10 ?_
          refine wp_aload_n 0 dX11_tells_159 rfl ?_
          have c11 := k.1
          replace k := k.2
          refine wp_getR (ci := 8) (j := 47) rfl (by decide) gX11_258 dX11_tells_160 c11 rfl ?_
          refine wp_iload_n 3 dX11_tells_163 rfl ?_
          have c12 := k.1
          replace k := k.2
          have c13 := k.1
          replace k := k.2
          have c14 := k.1
          replace k := k.2
          refine wp_iaload dX11_tells_164 c12 c13 c14 (fun q => ?_)
          have f15 := q
          replace k := k q
          refine wp_callS (y' := mX11_byteOf) (st := [jR a0]) [jI (1 - a2), jI (hA h146 (hR h146 847 a0) (a3 + 1))] rfl fX11_byteOf kX11_465 nX11_byteOf dX11_tells_165 (Nat.le_of_ble_eq_true rfl) ?_
          refine jCall.mono k (fun o h165 k => ?_)
          obtain ⟨v165, e, k⟩ := k
          subst e
          show jWp (d + 1) mX11_tells 168 [(0, jR a0), (1, jI a1), (2, jI a2), (3, jI (a3 + 1))] [jI v165, jR a0] h165 Q
          have c16 := k.1
          replace k := k.2
          refine wp_callV (ci := 8) (y' := mX11_tell) (st := []) [jI v165] rfl rfl rfl fX11_tell kX11_462 nX11_tell dX11_tells_168 (Nat.le_of_ble_eq_true rfl) c16 ?_
          refine jCall.mono k (fun o h168 k => ?_)
          obtain ⟨e, k⟩ := k
          subst e
          show jWp (d + 1) mX11_tells 171 [(0, jR a0), (1, jI a1), (2, jI a2), (3, jI (a3 + 1))] [] h168 Q
          refine wp_goto 241 dX11_tells_171 rfl ?_
          exact k
theorem bX11_tells_241 {d : Nat} {h : jH} {Q : jO → jH → Prop} {a0 : Nat} {a1 : Int} {a2 : Int} {a3 : Int} (k : jOK h → j32 a1 → j32 a2 → j32 a3 → j32 (a3 + 1) ∧ jWp (d + 1) mX11_tells 17 [(0, jR a0), (1, jI a1), (2, jI a2), (3, jI (a3 + 1))] [] h Q) : jWp (d + 1) mX11_tells 241 [(0, jR a0), (1, jI a1), (2, jI a2), (3, jI a3)] [] h Q := by
  refine jw_ok (fun ok q => ?_)
  replace k := k ok (q _ (.tail _ (.head _))) (q _ (.tail _ (.tail _ (.head _)))) (q _ (.tail _ (.tail _ (.tail _ (.head _)))))
  have c1 := k.1
  replace k := k.2
  refine wp_iinc 3 [1, 2, 3, 0] (ls' := [(0, jR a0), (1, jI a1), (2, jI a2), (3, jI (a3 + 1))]) dX11_tells_241 rfl c1 ⟨by decide, by decide⟩ (by decide) rfl ?_
  refine wp_goto 17 dX11_tells_244 rfl ?_
  exact k
theorem bX11_tells_174 {d : Nat} {h : jH} {Q : jO → jH → Prop} {a0 : Nat} {a1 : Int} {a2 : Int} {a3 : Int} {a4 : Int} (k : jOK h → j32 a1 → j32 a2 → j32 a3 → j32 a4 → ((a4 ≠ 99 → jWp (d + 1) mX11_tells 191 [(0, jR a0), (1, jI a1), (2, jI a2), (3, jI a3), (4, jI a4)] [] h Q) ∧ (a4 = 99 → ((2 ≤ a2 → jWp (d + 1) mX11_tells 191 [(0, jR a0), (1, jI a1), (2, jI a2), (3, jI a3), (4, jI a4)] [] h Q) ∧ (¬ (2 ≤ a2) → jWp (d + 1) mX11_tells 241 [(0, jR a0), (1, jI a1), (2, jI 2), (3, jI a3)] [] h Q))))) : jWp (d + 1) mX11_tells 174 [(0, jR a0), (1, jI a1), (2, jI a2), (3, jI a3), (4, jI a4)] [] h Q := by
  refine jw_ok (fun ok q => ?_)
  replace k := k ok (q _ (.tail _ (.head _))) (q _ (.tail _ (.tail _ (.head _)))) (q _ (.tail _ (.tail _ (.tail _ (.head _))))) (q _ (.tail _ (.tail _ (.tail _ (.tail _ (.head _))))))
  refine wp_iload 4 dX11_tells_174 rfl ?_
  refine wp_bipush dX11_tells_176 ⟨by decide, by decide⟩ ?_
  refine wp_icmp_ne 191 dX11_tells_178 rfl (fun q => ?_) (fun q => ?_)
  · replace k := k.1 q
    exact k
  · replace k := k.2 q
    refine wp_iload_n 2 dX11_tells_181 rfl ?_
    refine wp_iconst dX11_tells_182 ⟨by decide, by decide⟩ ?_
    refine wp_icmp_ge 191 dX11_tells_183 rfl (fun q => ?_) (fun q => ?_)
    · replace k := k.1 q
      exact k
    · replace k := k.2 q
      refine wp_iconst dX11_tells_186 ⟨by decide, by decide⟩ ?_
      refine wp_istore_n [1, 2, 0, 3] (ls' := [(0, jR a0), (1, jI a1), (2, jI 2), (3, jI a3)]) dX11_tells_187 (by decide) rfl ?_
      refine wp_goto 241 dX11_tells_188 rfl ?_
      exact k
theorem bX11_tells_191 {d : Nat} {h : jH} {Q : jO → jH → Prop} {a0 : Nat} {a1 : Int} {a2 : Int} {a3 : Int} {a4 : Int} (k : jOK h → j32 a1 → j32 a2 → j32 a3 → j32 a4 → ((a4 ≠ 100 → jWp (d + 1) mX11_tells 208 [(0, jR a0), (1, jI a1), (2, jI a2), (3, jI a3), (4, jI a4)] [] h Q) ∧ (a4 = 100 → ((a2 = 1 → jWp (d + 1) mX11_tells 208 [(0, jR a0), (1, jI a1), (2, jI a2), (3, jI a3), (4, jI a4)] [] h Q) ∧ (¬ (a2 = 1) → jWp (d + 1) mX11_tells 241 [(0, jR a0), (1, jI a1), (2, jI 1), (3, jI a3)] [] h Q))))) : jWp (d + 1) mX11_tells 191 [(0, jR a0), (1, jI a1), (2, jI a2), (3, jI a3), (4, jI a4)] [] h Q := by
  refine jw_ok (fun ok q => ?_)
  replace k := k ok (q _ (.tail _ (.head _))) (q _ (.tail _ (.tail _ (.head _)))) (q _ (.tail _ (.tail _ (.tail _ (.head _))))) (q _ (.tail _ (.tail _ (.tail _ (.tail _ (.head _))))))
  refine wp_iload 4 dX11_tells_191 rfl ?_
  refine wp_bipush dX11_tells_193 ⟨by decide, by decide⟩ ?_
  refine wp_icmp_ne 208 dX11_tells_195 rfl (fun q => ?_) (fun q => ?_)
  · replace k := k.1 q
    exact k
  · replace k := k.2 q
    refine wp_iload_n 2 dX11_tells_198 rfl ?_
    refine wp_iconst dX11_tells_199 ⟨by decide, by decide⟩ ?_
    refine wp_icmp_eq 208 dX11_tells_200 rfl (fun q => ?_) (fun q => ?_)
    · replace k := k.1 q
      exact k
    · replace k := k.2 q
      refine wp_iconst dX11_tells_203 ⟨by decide, by decide⟩ ?_
      refine wp_istore_n [1, 2, 0, 3] (ls' := [(0, jR a0), (1, jI a1), (2, jI 1), (3, jI a3)]) dX11_tells_204 (by decide) rfl ?_
      refine wp_goto 241 dX11_tells_205 rfl ?_
      exact k
theorem bX11_tells_208 {d : Nat} {h : jH} {Q : jO → jH → Prop} {a0 : Nat} {a1 : Int} {a2 : Int} {a3 : Int} {a4 : Int} (k : jOK h → j32 a1 → j32 a2 → j32 a3 → j32 a4 → ((a4 ≠ 101 → jWp (d + 1) mX11_tells 224 [(0, jR a0), (3, jI a3)] [] h Q) ∧ (a4 = 101 → ((a2 = 0 → jWp (d + 1) mX11_tells 224 [(0, jR a0), (3, jI a3)] [] h Q) ∧ (¬ (a2 = 0) → jWp (d + 1) mX11_tells 241 [(0, jR a0), (1, jI a1), (2, jI 0), (3, jI a3)] [] h Q))))) : jWp (d + 1) mX11_tells 208 [(0, jR a0), (1, jI a1), (2, jI a2), (3, jI a3), (4, jI a4)] [] h Q := by
  refine jw_ok (fun ok q => ?_)
  replace k := k ok (q _ (.tail _ (.head _))) (q _ (.tail _ (.tail _ (.head _)))) (q _ (.tail _ (.tail _ (.tail _ (.head _))))) (q _ (.tail _ (.tail _ (.tail _ (.tail _ (.head _))))))
  refine wp_iload 4 dX11_tells_208 rfl ?_
  refine wp_bipush dX11_tells_210 ⟨by decide, by decide⟩ ?_
  refine wp_icmp_ne 224 dX11_tells_212 rfl (fun q => ?_) (fun q => ?_)
  · replace k := k.1 q
    refine wp_sub [0, 3] (ls' := [(0, jR a0), (3, jI a3)]) rfl ?_
    exact k
  · replace k := k.2 q
    refine wp_iload_n 2 dX11_tells_215 rfl ?_
    refine wp_if_eq 224 dX11_tells_216 rfl (fun q => ?_) (fun q => ?_)
    · replace k := k.1 q
      refine wp_sub [0, 3] (ls' := [(0, jR a0), (3, jI a3)]) rfl ?_
      exact k
    · replace k := k.2 q
      refine wp_iconst dX11_tells_219 ⟨by decide, by decide⟩ ?_
      refine wp_istore_n [1, 2, 0, 3] (ls' := [(0, jR a0), (1, jI a1), (2, jI 0), (3, jI a3)]) dX11_tells_220 (by decide) rfl ?_
      refine wp_goto 241 dX11_tells_221 rfl ?_
      exact k
theorem bX11_tells_224 {d : Nat} {h : jH} {Q : jO → jH → Prop} {a0 : Nat} {a3 : Int} (k : jOK h → j32 a3 → hK h a0 = 9 ∧ hK h (hR h 848 a0) = 10 ∧ 0 ≤ a3 ∧ a3 < hN h (hR h 848 a0) ∧ (j32 (hA h (hR h 848 a0) a3) → jCall d mX11_placeOf [jR a0, jI (hA h (hR h 848 a0) a3)] h (fun o h234 => ∃ v234, o = .inl (some (jI v234)) ∧ hK h234 a0 = 9 ∧ jCall d mX11_fault [jR a0, jI 16, jI v234] h234 (fun o h237 => ∃ v237, o = .inl (some (jI v237)) ∧ (0 ≤ v237 ∧ v237 ≤ 1) ∧ Q (.inl (some (jI v237))) h237)))) : jWp (d + 1) mX11_tells 224 [(0, jR a0), (3, jI a3)] [] h Q := by
  refine jw_ok (fun ok q => ?_)
  replace k := k ok (q _ (.tail _ (.head _)))
  refine wp_aload_n 0 dX11_tells_224 rfl ?_
  refine wp_bipush dX11_tells_225 ⟨by decide, by decide⟩ ?_
  refine wp_aload_n 0 dX11_tells_227 rfl ?_
  refine wp_aload_n 0 dX11_tells_228 rfl ?_
  have c1 := k.1
  replace k := k.2
  refine wp_getR (ci := 8) (j := 48) rfl (by decide) gX11_261 dX11_tells_229 c1 rfl ?_
  refine wp_iload_n 1 dX11_tells_232 rfl ?_
  have c2 := k.1
  replace k := k.2
  have c3 := k.1
  replace k := k.2
  have c4 := k.1
  replace k := k.2
  refine wp_iaload dX11_tells_233 c2 c3 c4 (fun q => ?_)
  have f5 := q
  replace k := k q
  refine wp_callV (ci := 8) (y' := mX11_placeOf) (st := [jI 16, jR a0]) [jI (hA h (hR h 848 a0) a3)] rfl rfl rfl fX11_placeOf kX11_444 nX11_placeOf dX11_tells_234 (Nat.le_of_ble_eq_true rfl) c1 ?_
  refine jCall.mono k (fun o h234 k => ?_)
  obtain ⟨v234, e, k⟩ := k
  subst e
  show jWp (d + 1) mX11_tells 237 [(0, jR a0), (3, jI a3)] [jI v234, jI 16, jR a0] h234 Q
  have c6 := k.1
  replace k := k.2
  refine wp_callV (ci := 8) (y' := mX11_fault) (st := []) [jI 16, jI v234] rfl rfl rfl fX11_fault kX11_304 nX11_fault dX11_tells_237 (Nat.le_of_ble_eq_true rfl) c6 ?_
  refine jCall.mono k (fun o h237 k => ?_)
  obtain ⟨v237, e, k⟩ := k
  subst e
  show jWp (d + 1) mX11_tells 240 [(0, jR a0), (3, jI a3)] [jI v237] h237 Q
  have c7 := k.1
  replace k := k.2
  exact wp_zreturn dX11_tells_240 rfl c7.1 c7.2 k
theorem bX11_scanned {d : Nat} {h : jH} {Q : jO → jH → Prop} {a0 : Nat} {a1 : Int} (k : jOK h → j32 a1 → hK h a0 = 9 ∧ ((a1 ≠ 0 → ((a1 ≠ 1 → ((a1 ≠ 2 → Q (.inl (some (jI (-1)))) (sI h 812 a0 0)) ∧ (a1 = 2 → (j32 (hI (sI h 812 a0 0) 851 a0) → (((hI (sI h 812 a0 0) 851 a0) = 0 → Q (.inl (some (jI 0))) (sI h 812 a0 0)) ∧ (¬ ((hI (sI h 812 a0 0) 851 a0) = 0) → Q (.inl (some (jI 1))) (sI h 812 a0 0))))))) ∧ (a1 = 1 → (j32 (hI (sI h 812 a0 0) 850 a0) → Q (.inl (some (jI (hI (sI h 812 a0 0) 850 a0)))) (sI h 812 a0 0))))) ∧ (a1 = 0 → (j32 (hI (sI h 812 a0 0) 849 a0) → Q (.inl (some (jI (hI (sI h 812 a0 0) 849 a0)))) (sI h 812 a0 0))))) : jCall d mX11_scanned [jR a0, jI a1] h Q := by
  refine jCall_of plX11 (Nat.le_of_ble_eq_true rfl) ?_
  show jWp d mX11_scanned 0 [(0, jR a0), (1, jI a1)] [] h Q
  refine jw_ok (fun ok q => ?_)
  replace k := k ok (q _ (.tail _ (.head _)))
  refine wp_aload_n 0 dX11_scanned_0 rfl ?_
  refine wp_iconst dX11_scanned_1 ⟨by decide, by decide⟩ ?_
  have c1 := k.1
  replace k := k.2
  refine wp_putI (ci := 8) (j := 12) rfl (by decide) gX11_48 dX11_scanned_2 c1 (Or.inl rfl) rfl ?_
  refine wp_iload_n 1 dX11_scanned_5 rfl ?_
  refine wp_if_ne 14 dX11_scanned_6 rfl (fun q => ?_) (fun q => ?_)
  · replace k := k.1 q
    refine wp_iload_n 1 dX11_scanned_14 rfl ?_
    refine wp_iconst dX11_scanned_15 ⟨by decide, by decide⟩ ?_
    refine wp_icmp_ne 24 dX11_scanned_16 rfl (fun q => ?_) (fun q => ?_)
    · replace k := k.1 q
      refine wp_iload_n 1 dX11_scanned_24 rfl ?_
      refine wp_iconst dX11_scanned_25 ⟨by decide, by decide⟩ ?_
      refine wp_icmp_ne 44 dX11_scanned_26 rfl (fun q => ?_) (fun q => ?_)
      · replace k := k.1 q
        refine wp_iconst dX11_scanned_44 ⟨by decide, by decide⟩ ?_
        exact wp_iret dX11_scanned_45 rfl k
      · replace k := k.2 q
        refine wp_aload_n 0 dX11_scanned_29 rfl ?_
        refine wp_getI (ci := 8) (j := 51) rfl (by decide) gX11_270 dX11_scanned_30 c1 rfl (fun q => ?_)
        have f2 := q
        replace k := k q
        refine wp_if_eq 40 dX11_scanned_33 rfl (fun q => ?_) (fun q => ?_)
        · replace k := k.1 q
          refine wp_iconst dX11_scanned_40 ⟨by decide, by decide⟩ ?_
          refine wp_goto 45 dX11_scanned_41 rfl ?_
          exact wp_iret dX11_scanned_45 rfl k
        · replace k := k.2 q
          refine wp_iconst dX11_scanned_36 ⟨by decide, by decide⟩ ?_
          refine wp_goto 45 dX11_scanned_37 rfl ?_
          exact wp_iret dX11_scanned_45 rfl k
    · replace k := k.2 q
      refine wp_aload_n 0 dX11_scanned_19 rfl ?_
      refine wp_getI (ci := 8) (j := 50) rfl (by decide) gX11_267 dX11_scanned_20 c1 rfl (fun q => ?_)
      have f3 := q
      replace k := k q
      exact wp_iret dX11_scanned_23 rfl k
  · replace k := k.2 q
    refine wp_aload_n 0 dX11_scanned_9 rfl ?_
    refine wp_getI (ci := 8) (j := 49) rfl (by decide) gX11_264 dX11_scanned_10 c1 rfl (fun q => ?_)
    have f4 := q
    replace k := k q
    exact wp_iret dX11_scanned_13 rfl k
