/-! BLOCKS (made by wip/whole/gen/genblk.py) -/
theorem bJ9_floorMod_7cf53 {d : Nat} {h : jH} {Q : jO → jH → Prop} {a0 : Int} {a1 : Int} (k : jOK h → j32 a0 → j32 a1 → 0 < a1 ∧ ∀ w6 : Int, (w6 < 0 ↔ ¬ (a0 < 0 ↔ a1 < 0)) → ((0 ≤ w6 → Q (.inl (some (jI ((a0).tmod a1)))) h) ∧ (¬ (0 ≤ w6) → ((((a0).tmod a1) = 0 → Q (.inl (some (jI ((a0).tmod a1)))) h) ∧ (¬ (((a0).tmod a1) = 0) → j32 (((a0).tmod a1) + a1) ∧ Q (.inl (some (jI (((a0).tmod a1) + a1)))) h))))) : jCall d mJ9_floorMod_7cf53 [jI a0, jI a1] h Q := by
  refine jCall_ofF plJ9_floorMod_7cf53 rfl (Nat.le_of_ble_eq_true rfl) ?_
  show jWp d mJ9_floorMod_7cf53 0 [(0, jI a0), (1, jI a1)] [] h Q
  refine jw_ok (fun ok q => ?_)
  replace k := k ok (q _ (.head _)) (q _ (.tail _ (.head _)))
  refine wp_iload_n 0 dJ9_floorMod_7cf53_0 rfl ?_
  refine wp_iload_n 1 dJ9_floorMod_7cf53_1 rfl ?_
  have c1 := k.1
  replace k := k.2
  refine wp_iremT dJ9_floorMod_7cf53_2 c1 ?_
  refine wp_istore_n [1, 2, 0] (ls' := [(0, jI a0), (1, jI a1), (2, jI ((a0).tmod a1))]) dJ9_floorMod_7cf53_3 (by decide) rfl ?_
  refine wp_iload_n 0 dJ9_floorMod_7cf53_4 rfl ?_
  refine wp_iload_n 1 dJ9_floorMod_7cf53_5 rfl ?_
  refine wp_ixor dJ9_floorMod_7cf53_6 (fun w6 q => ?_)
  replace k := k w6 q
  refine wp_if_ge 18 dJ9_floorMod_7cf53_7 rfl (fun q => ?_) (fun q => ?_)
  · replace k := k.1 q
    refine wp_iload_n 2 dJ9_floorMod_7cf53_18 rfl ?_
    exact wp_iret dJ9_floorMod_7cf53_19 rfl k
  · replace k := k.2 q
    refine wp_iload_n 2 dJ9_floorMod_7cf53_10 rfl ?_
    refine wp_if_eq 18 dJ9_floorMod_7cf53_11 rfl (fun q => ?_) (fun q => ?_)
    · replace k := k.1 q
      refine wp_iload_n 2 dJ9_floorMod_7cf53_18 rfl ?_
      exact wp_iret dJ9_floorMod_7cf53_19 rfl k
    · replace k := k.2 q
      refine wp_iload_n 2 dJ9_floorMod_7cf53_14 rfl ?_
      refine wp_iload_n 1 dJ9_floorMod_7cf53_15 rfl ?_
      have c2 := k.1
      replace k := k.2
      refine wp_iadd dJ9_floorMod_7cf53_16 c2 ?_
      exact wp_iret dJ9_floorMod_7cf53_17 rfl k
theorem bJ9_max_7cf53 {d : Nat} {h : jH} {Q : jO → jH → Prop} {a0 : Int} {a1 : Int} (k : jOK h → j32 a0 → j32 a1 → ((a0 < a1 → Q (.inl (some (jI a1))) h) ∧ (¬ (a0 < a1) → Q (.inl (some (jI a0))) h))) : jCall d mJ9_max_7cf53 [jI a0, jI a1] h Q := by
  refine jCall_ofF plJ9_max_7cf53 rfl (Nat.le_of_ble_eq_true rfl) ?_
  show jWp d mJ9_max_7cf53 0 [(0, jI a0), (1, jI a1)] [] h Q
  refine jw_ok (fun ok q => ?_)
  replace k := k ok (q _ (.head _)) (q _ (.tail _ (.head _)))
  refine wp_iload_n 0 dJ9_max_7cf53_0 rfl ?_
  refine wp_iload_n 1 dJ9_max_7cf53_1 rfl ?_
  refine wp_icmp_lt 9 dJ9_max_7cf53_2 rfl (fun q => ?_) (fun q => ?_)
  · replace k := k.1 q
    refine wp_iload_n 1 dJ9_max_7cf53_9 rfl ?_
    exact wp_iret dJ9_max_7cf53_10 rfl k
  · replace k := k.2 q
    refine wp_iload_n 0 dJ9_max_7cf53_5 rfl ?_
    refine wp_goto 10 dJ9_max_7cf53_6 rfl ?_
    exact wp_iret dJ9_max_7cf53_10 rfl k
theorem bJ9_min_7cf53 {d : Nat} {h : jH} {Q : jO → jH → Prop} {a0 : Int} {a1 : Int} (k : jOK h → j32 a0 → j32 a1 → ((a1 < a0 → Q (.inl (some (jI a1))) h) ∧ (¬ (a1 < a0) → Q (.inl (some (jI a0))) h))) : jCall d mJ9_min_7cf53 [jI a0, jI a1] h Q := by
  refine jCall_ofF plJ9_min_7cf53 rfl (Nat.le_of_ble_eq_true rfl) ?_
  show jWp d mJ9_min_7cf53 0 [(0, jI a0), (1, jI a1)] [] h Q
  refine jw_ok (fun ok q => ?_)
  replace k := k ok (q _ (.head _)) (q _ (.tail _ (.head _)))
  refine wp_iload_n 0 dJ9_min_7cf53_0 rfl ?_
  refine wp_iload_n 1 dJ9_min_7cf53_1 rfl ?_
  refine wp_icmp_gt 9 dJ9_min_7cf53_2 rfl (fun q => ?_) (fun q => ?_)
  · replace k := k.1 q
    refine wp_iload_n 1 dJ9_min_7cf53_9 rfl ?_
    exact wp_iret dJ9_min_7cf53_10 rfl k
  · replace k := k.2 q
    refine wp_iload_n 0 dJ9_min_7cf53_5 rfl ?_
    refine wp_goto 10 dJ9_min_7cf53_6 rfl ?_
    exact wp_iret dJ9_min_7cf53_10 rfl k
theorem bX2_checkCharacter {d : Nat} {h : jH} {Q : jO → jH → Prop} {a0 : Nat} {a1 : Int} (k : jOK h → j32 a1 → hK h a0 = 6 ∧ jCall d mX7_at [jR a0, jI 0] h (fun o h2 => ∃ v2, o = .inl (some (jI v2)) ∧ jWp (d + 1) mX2_checkCharacter 8 [(0, jR a0), (1, jI a1), (2, jI v2), (3, jI 1)] [] h2 Q)) : jCall (d + 1) mX2_checkCharacter [jR a0, jI a1] h Q := by
  refine jCall_of plX2 (Nat.le_of_ble_eq_true rfl) ?_
  show jWp (d + 1) mX2_checkCharacter 0 [(0, jR a0), (1, jI a1)] [] h Q
  refine jw_ok (fun ok q => ?_)
  replace k := k ok (q _ (.tail _ (.head _)))
  refine wp_aload_n 0 dX2_checkCharacter_0 rfl ?_
  refine wp_iconst dX2_checkCharacter_1 ⟨by decide, by decide⟩ ?_
  have c1 := k.1
  replace k := k.2
  refine wp_callV (ci := 5) (y' := mX7_at) (st := []) [jI 0] rfl rfl rfl fX7_at kX2_7 nX7_at dX2_checkCharacter_2 (Nat.le_of_ble_eq_true rfl) c1 ?_
  refine jCall.mono k (fun o h2 k => ?_)
  obtain ⟨v2, e, k⟩ := k
  subst e
  show jWp (d + 1) mX2_checkCharacter 5 [(0, jR a0), (1, jI a1)] [jI v2] h2 Q
  refine wp_istore_n [1, 2, 0] (ls' := [(0, jR a0), (1, jI a1), (2, jI v2)]) dX2_checkCharacter_5 (by decide) rfl ?_
  refine wp_iconst dX2_checkCharacter_6 ⟨by decide, by decide⟩ ?_
  refine wp_istore_n [1, 2, 3, 0] (ls' := [(0, jR a0), (1, jI a1), (2, jI v2), (3, jI 1)]) dX2_checkCharacter_7 (by decide) rfl ?_
  exact k
theorem bX2_checkCharacter_8 {d : Nat} {h : jH} {Q : jO → jH → Prop} {a0 : Nat} {a1 : Int} {a2 : Int} {a3 : Int} (k : jOK h → j32 a1 → j32 a2 → j32 a3 → ((a1 ≤ a3 → jCall d mJ9_floorMod_7cf53 [jI a2, jI 103] h (fun o h32 => ∃ v32, o = .inl (some (jI v32)) ∧ Q (.inl (some (jI v32))) h32)) ∧ (¬ (a1 ≤ a3) → hK h a0 = 6 ∧ jCall d mX7_at [jR a0, jI a3] h (fun o h16 => ∃ v16, o = .inl (some (jI v16)) ∧ j32 (v16 * a3) ∧ j32 (a2 + (v16 * a3)) ∧ j32 (a3 + 1) ∧ jWp (d + 1) mX2_checkCharacter 8 [(0, jR a0), (1, jI a1), (2, jI (a2 + (v16 * a3))), (3, jI (a3 + 1))] [] h16 Q)))) : jWp (d + 1) mX2_checkCharacter 8 [(0, jR a0), (1, jI a1), (2, jI a2), (3, jI a3)] [] h Q := by
  refine jw_ok (fun ok q => ?_)
  replace k := k ok (q _ (.tail _ (.head _))) (q _ (.tail _ (.tail _ (.head _)))) (q _ (.tail _ (.tail _ (.tail _ (.head _)))))
  refine wp_iload_n 3 dX2_checkCharacter_8 rfl ?_
  refine wp_iload_n 1 dX2_checkCharacter_9 rfl ?_
  refine wp_icmp_ge 29 dX2_checkCharacter_10 rfl (fun q => ?_) (fun q => ?_)
  · replace k := k.1 q
    refine wp_iload_n 2 dX2_checkCharacter_29 rfl ?_
    refine wp_bipush dX2_checkCharacter_30 ⟨by decide, by decide⟩ ?_
    refine wp_callS (y' := mJ9_floorMod_7cf53) (st := []) [jI a2, jI 103] rfl fJ9_floorMod_7cf53 kX2_13 nJ9_floorMod_7cf53 dX2_checkCharacter_32 (Nat.le_of_ble_eq_true rfl) ?_
    refine jCall.mono k (fun o h32 k => ?_)
    obtain ⟨v32, e, k⟩ := k
    subst e
    show jWp (d + 1) mX2_checkCharacter 35 [(0, jR a0), (1, jI a1), (2, jI a2), (3, jI a3)] [jI v32] h32 Q
    exact wp_iret dX2_checkCharacter_35 rfl k
  · replace k := k.2 q
    refine wp_iload_n 2 dX2_checkCharacter_13 rfl ?_
    refine wp_aload_n 0 dX2_checkCharacter_14 rfl ?_
    refine wp_iload_n 3 dX2_checkCharacter_15 rfl ?_
    have c1 := k.1
    replace k := k.2
    refine wp_callV (ci := 5) (y' := mX7_at) (st := [jI a2]) [jI a3] rfl rfl rfl fX7_at kX2_7 nX7_at dX2_checkCharacter_16 (Nat.le_of_ble_eq_true rfl) c1 ?_
    refine jCall.mono k (fun o h16 k => ?_)
    obtain ⟨v16, e, k⟩ := k
    subst e
    show jWp (d + 1) mX2_checkCharacter 19 [(0, jR a0), (1, jI a1), (2, jI a2), (3, jI a3)] [jI v16, jI a2] h16 Q
    refine wp_iload_n 3 dX2_checkCharacter_19 rfl ?_
    have c2 := k.1
    replace k := k.2
    refine wp_imul dX2_checkCharacter_20 c2 ?_
    have c3 := k.1
    replace k := k.2
    refine wp_iadd dX2_checkCharacter_21 c3 ?_
    refine wp_istore_n [1, 2, 0, 3] (ls' := [(0, jR a0), (1, jI a1), (2, jI (a2 + (v16 * a3))), (3, jI a3)]) dX2_checkCharacter_22 (by decide) rfl ?_
    have c4 := k.1
    replace k := k.2
    refine wp_iinc 3 [1, 2, 3, 0] (ls' := [(0, jR a0), (1, jI a1), (2, jI (a2 + (v16 * a3))), (3, jI (a3 + 1))]) dX2_checkCharacter_23 rfl c4 ⟨by decide, by decide⟩ (by decide) rfl ?_
    refine wp_goto 8 dX2_checkCharacter_26 rfl ?_
    exact k
theorem bX3_yearMeant {d : Nat} {h : jH} {Q : jO → jH → Prop} {a0 : Int} {a1 : Int} (k : jOK h → j32 a0 → j32 a1 → j32 (a1 - 49) ∧ j32 (a0 - (a1 - 49)) ∧ jCall d mJ9_floorMod_7cf53 [jI (a0 - (a1 - 49)), jI 100] h (fun o h11 => ∃ v11, o = .inl (some (jI v11)) ∧ j32 ((a1 - 49) + v11) ∧ Q (.inl (some (jI ((a1 - 49) + v11)))) h11)) : jCall (d + 1) mX3_yearMeant [jI a0, jI a1] h Q := by
  refine jCall_of plX3 (Nat.le_of_ble_eq_true rfl) ?_
  show jWp (d + 1) mX3_yearMeant 0 [(0, jI a0), (1, jI a1)] [] h Q
  refine jw_ok (fun ok q => ?_)
  replace k := k ok (q _ (.head _)) (q _ (.tail _ (.head _)))
  refine wp_iload_n 1 dX3_yearMeant_0 rfl ?_
  refine wp_bipush dX3_yearMeant_1 ⟨by decide, by decide⟩ ?_
  have c1 := k.1
  replace k := k.2
  refine wp_isub dX3_yearMeant_3 c1 ?_
  refine wp_istore_n [1, 0] (ls' := [(0, jI a0), (2, jI (a1 - 49))]) dX3_yearMeant_4 (by decide) rfl ?_
  refine wp_iload_n 1 dX3_yearMeant_5 rfl ?_
  refine wp_iload_n 0 dX3_yearMeant_6 rfl ?_
  refine wp_iload_n 1 dX3_yearMeant_7 rfl ?_
  have c2 := k.1
  replace k := k.2
  refine wp_isub dX3_yearMeant_8 c2 ?_
  refine wp_bipush dX3_yearMeant_9 ⟨by decide, by decide⟩ ?_
  refine wp_callS (y' := mJ9_floorMod_7cf53) (st := [jI (a1 - 49)]) [jI (a0 - (a1 - 49)), jI 100] rfl fJ9_floorMod_7cf53 kX3_7 nJ9_floorMod_7cf53 dX3_yearMeant_11 (Nat.le_of_ble_eq_true rfl) ?_
  refine jCall.mono k (fun o h11 k => ?_)
  obtain ⟨v11, e, k⟩ := k
  subst e
  show jWp (d + 1) mX3_yearMeant 14 [(0, jI a0), (2, jI (a1 - 49))] [jI v11, jI (a1 - 49)] h11 Q
  have c3 := k.1
  replace k := k.2
  refine wp_iadd dX3_yearMeant_14 c3 ?_
  exact wp_iret dX3_yearMeant_15 rfl k
theorem bX3_lastDay {d : Nat} {h : jH} {Q : jO → jH → Prop} {a0 : Int} {a1 : Int} (k : jOK h → j32 a0 → j32 a1 → 0 ≤ a0 ∧ (((a0 % 4) ≠ 0 → ((a1 = 2 → Q (.inl (some (jI 28))) h) ∧ (a1 = 4 → Q (.inl (some (jI 30))) h) ∧ (a1 = 6 → Q (.inl (some (jI 30))) h) ∧ (a1 = 9 → Q (.inl (some (jI 30))) h) ∧ (a1 = 11 → Q (.inl (some (jI 30))) h) ∧ (a1 ≠ 2 → a1 ≠ 4 → a1 ≠ 6 → a1 ≠ 9 → a1 ≠ 11 → Q (.inl (some (jI 31))) h))) ∧ ((a0 % 4) = 0 → (((a0 % 100) ≠ 0 → ((a1 = 2 → Q (.inl (some (jI 29))) h) ∧ (a1 = 4 → Q (.inl (some (jI 30))) h) ∧ (a1 = 6 → Q (.inl (some (jI 30))) h) ∧ (a1 = 9 → Q (.inl (some (jI 30))) h) ∧ (a1 = 11 → Q (.inl (some (jI 30))) h) ∧ (a1 ≠ 2 → a1 ≠ 4 → a1 ≠ 6 → a1 ≠ 9 → a1 ≠ 11 → Q (.inl (some (jI 31))) h))) ∧ ((a0 % 100) = 0 → (((a0 % 400) ≠ 0 → ((a1 = 2 → Q (.inl (some (jI 28))) h) ∧ (a1 = 4 → Q (.inl (some (jI 30))) h) ∧ (a1 = 6 → Q (.inl (some (jI 30))) h) ∧ (a1 = 9 → Q (.inl (some (jI 30))) h) ∧ (a1 = 11 → Q (.inl (some (jI 30))) h) ∧ (a1 ≠ 2 → a1 ≠ 4 → a1 ≠ 6 → a1 ≠ 9 → a1 ≠ 11 → Q (.inl (some (jI 31))) h))) ∧ ((a0 % 400) = 0 → ((a1 = 2 → Q (.inl (some (jI 29))) h) ∧ (a1 = 4 → Q (.inl (some (jI 30))) h) ∧ (a1 = 6 → Q (.inl (some (jI 30))) h) ∧ (a1 = 9 → Q (.inl (some (jI 30))) h) ∧ (a1 = 11 → Q (.inl (some (jI 30))) h) ∧ (a1 ≠ 2 → a1 ≠ 4 → a1 ≠ 6 → a1 ≠ 9 → a1 ≠ 11 → Q (.inl (some (jI 31))) h))))))))) : jCall d mX3_lastDay [jI a0, jI a1] h Q := by
  refine jCall_of plX3 (Nat.le_of_ble_eq_true rfl) ?_
  show jWp d mX3_lastDay 0 [(0, jI a0), (1, jI a1)] [] h Q
  refine jw_ok (fun ok q => ?_)
  replace k := k ok (q _ (.head _)) (q _ (.tail _ (.head _)))
  refine wp_iload_n 0 dX3_lastDay_0 rfl ?_
  refine wp_iconst dX3_lastDay_1 ⟨by decide, by decide⟩ ?_
  have c1 := k.1
  replace k := k.2
  refine wp_irem dX3_lastDay_2 c1 (by decide) ?_
  refine wp_if_ne 25 dX3_lastDay_3 rfl (fun q => ?_) (fun q => ?_)
  · replace k := k.1 q
    refine wp_iconst dX3_lastDay_25 ⟨by decide, by decide⟩ ?_
    refine wp_istore_n [2, 0] (ls' := [(1, jI a1), (2, jI 0)]) dX3_lastDay_26 (by decide) rfl ?_
    refine wp_iload_n 0 dX3_lastDay_27 rfl ?_
    refine wp_table dX3_lastDay_28 99 rfl (fun q => ?_) (fun q q9 => ?_)
    · replace k := k.2.2.2.2.2 (by omega) (by omega) (by omega) (by omega) (by omega)
      refine wp_bipush dX3_lastDay_99 ⟨by decide, by decide⟩ ?_
      exact wp_iret dX3_lastDay_101 rfl k
    · have q8 : a1 = 2 ∨ a1 = 3 ∨ a1 = 4 ∨ a1 = 5 ∨ a1 = 6 ∨ a1 = 7 ∨ a1 = 8 ∨ a1 = 9 ∨ a1 = 10 ∨ a1 = 11 := by omega
      rcases q8 with q8 | q8 | q8 | q8 | q8 | q8 | q8 | q8 | q8 | q8
      · refine ⟨56, 84, by rw [q8]; rfl, rfl, ?_⟩
        replace k := k.1 q8
        refine wp_iload_n 1 dX3_lastDay_84 rfl ?_
        refine wp_if_eq 93 dX3_lastDay_85 rfl (fun q => ?_) (fun q => absurd q (by decide))
        refine wp_bipush dX3_lastDay_93 ⟨by decide, by decide⟩ ?_
        exact wp_iret dX3_lastDay_95 rfl k
      · refine ⟨71, 99, by rw [q8]; rfl, rfl, ?_⟩
        replace k := k.2.2.2.2.2 (by omega) (by omega) (by omega) (by omega) (by omega)
        refine wp_bipush dX3_lastDay_99 ⟨by decide, by decide⟩ ?_
        exact wp_iret dX3_lastDay_101 rfl k
      · refine ⟨68, 96, by rw [q8]; rfl, rfl, ?_⟩
        replace k := k.2.1 q8
        refine wp_bipush dX3_lastDay_96 ⟨by decide, by decide⟩ ?_
        exact wp_iret dX3_lastDay_98 rfl k
      · refine ⟨71, 99, by rw [q8]; rfl, rfl, ?_⟩
        replace k := k.2.2.2.2.2 (by omega) (by omega) (by omega) (by omega) (by omega)
        refine wp_bipush dX3_lastDay_99 ⟨by decide, by decide⟩ ?_
        exact wp_iret dX3_lastDay_101 rfl k
      · refine ⟨68, 96, by rw [q8]; rfl, rfl, ?_⟩
        replace k := k.2.2.1 q8
        refine wp_bipush dX3_lastDay_96 ⟨by decide, by decide⟩ ?_
        exact wp_iret dX3_lastDay_98 rfl k
      · refine ⟨71, 99, by rw [q8]; rfl, rfl, ?_⟩
        replace k := k.2.2.2.2.2 (by omega) (by omega) (by omega) (by omega) (by omega)
        refine wp_bipush dX3_lastDay_99 ⟨by decide, by decide⟩ ?_
        exact wp_iret dX3_lastDay_101 rfl k
      · refine ⟨71, 99, by rw [q8]; rfl, rfl, ?_⟩
        replace k := k.2.2.2.2.2 (by omega) (by omega) (by omega) (by omega) (by omega)
        refine wp_bipush dX3_lastDay_99 ⟨by decide, by decide⟩ ?_
        exact wp_iret dX3_lastDay_101 rfl k
      · refine ⟨68, 96, by rw [q8]; rfl, rfl, ?_⟩
        replace k := k.2.2.2.1 q8
        refine wp_bipush dX3_lastDay_96 ⟨by decide, by decide⟩ ?_
        exact wp_iret dX3_lastDay_98 rfl k
      · refine ⟨71, 99, by rw [q8]; rfl, rfl, ?_⟩
        replace k := k.2.2.2.2.2 (by omega) (by omega) (by omega) (by omega) (by omega)
        refine wp_bipush dX3_lastDay_99 ⟨by decide, by decide⟩ ?_
        exact wp_iret dX3_lastDay_101 rfl k
      · refine ⟨68, 96, by rw [q8]; rfl, rfl, ?_⟩
        replace k := k.2.2.2.2.1 q8
        refine wp_bipush dX3_lastDay_96 ⟨by decide, by decide⟩ ?_
        exact wp_iret dX3_lastDay_98 rfl k
  · replace k := k.2 q
    refine wp_iload_n 0 dX3_lastDay_6 rfl ?_
    refine wp_bipush dX3_lastDay_7 ⟨by decide, by decide⟩ ?_
    refine wp_irem dX3_lastDay_9 c1 (by decide) ?_
    refine wp_if_ne 21 dX3_lastDay_10 rfl (fun q => ?_) (fun q => ?_)
    · replace k := k.1 q
      refine wp_iconst dX3_lastDay_21 ⟨by decide, by decide⟩ ?_
      refine wp_goto 26 dX3_lastDay_22 rfl ?_
      refine wp_istore_n [2, 0] (ls' := [(1, jI a1), (2, jI 1)]) dX3_lastDay_26 (by decide) rfl ?_
      refine wp_iload_n 0 dX3_lastDay_27 rfl ?_
      refine wp_table dX3_lastDay_28 99 rfl (fun q => ?_) (fun q q9 => ?_)
      · replace k := k.2.2.2.2.2 (by omega) (by omega) (by omega) (by omega) (by omega)
        refine wp_bipush dX3_lastDay_99 ⟨by decide, by decide⟩ ?_
        exact wp_iret dX3_lastDay_101 rfl k
      · have q8 : a1 = 2 ∨ a1 = 3 ∨ a1 = 4 ∨ a1 = 5 ∨ a1 = 6 ∨ a1 = 7 ∨ a1 = 8 ∨ a1 = 9 ∨ a1 = 10 ∨ a1 = 11 := by omega
        rcases q8 with q8 | q8 | q8 | q8 | q8 | q8 | q8 | q8 | q8 | q8
        · refine ⟨56, 84, by rw [q8]; rfl, rfl, ?_⟩
          replace k := k.1 q8
          refine wp_iload_n 1 dX3_lastDay_84 rfl ?_
          refine wp_if_eq 93 dX3_lastDay_85 rfl (fun q => absurd q (by decide)) (fun q => ?_)
          refine wp_bipush dX3_lastDay_88 ⟨by decide, by decide⟩ ?_
          refine wp_goto 95 dX3_lastDay_90 rfl ?_
          exact wp_iret dX3_lastDay_95 rfl k
        · refine ⟨71, 99, by rw [q8]; rfl, rfl, ?_⟩
          replace k := k.2.2.2.2.2 (by omega) (by omega) (by omega) (by omega) (by omega)
          refine wp_bipush dX3_lastDay_99 ⟨by decide, by decide⟩ ?_
          exact wp_iret dX3_lastDay_101 rfl k
        · refine ⟨68, 96, by rw [q8]; rfl, rfl, ?_⟩
          replace k := k.2.1 q8
          refine wp_bipush dX3_lastDay_96 ⟨by decide, by decide⟩ ?_
          exact wp_iret dX3_lastDay_98 rfl k
        · refine ⟨71, 99, by rw [q8]; rfl, rfl, ?_⟩
          replace k := k.2.2.2.2.2 (by omega) (by omega) (by omega) (by omega) (by omega)
          refine wp_bipush dX3_lastDay_99 ⟨by decide, by decide⟩ ?_
          exact wp_iret dX3_lastDay_101 rfl k
        · refine ⟨68, 96, by rw [q8]; rfl, rfl, ?_⟩
          replace k := k.2.2.1 q8
          refine wp_bipush dX3_lastDay_96 ⟨by decide, by decide⟩ ?_
          exact wp_iret dX3_lastDay_98 rfl k
        · refine ⟨71, 99, by rw [q8]; rfl, rfl, ?_⟩
          replace k := k.2.2.2.2.2 (by omega) (by omega) (by omega) (by omega) (by omega)
          refine wp_bipush dX3_lastDay_99 ⟨by decide, by decide⟩ ?_
          exact wp_iret dX3_lastDay_101 rfl k
        · refine ⟨71, 99, by rw [q8]; rfl, rfl, ?_⟩
          replace k := k.2.2.2.2.2 (by omega) (by omega) (by omega) (by omega) (by omega)
          refine wp_bipush dX3_lastDay_99 ⟨by decide, by decide⟩ ?_
          exact wp_iret dX3_lastDay_101 rfl k
        · refine ⟨68, 96, by rw [q8]; rfl, rfl, ?_⟩
          replace k := k.2.2.2.1 q8
          refine wp_bipush dX3_lastDay_96 ⟨by decide, by decide⟩ ?_
          exact wp_iret dX3_lastDay_98 rfl k
        · refine ⟨71, 99, by rw [q8]; rfl, rfl, ?_⟩
          replace k := k.2.2.2.2.2 (by omega) (by omega) (by omega) (by omega) (by omega)
          refine wp_bipush dX3_lastDay_99 ⟨by decide, by decide⟩ ?_
          exact wp_iret dX3_lastDay_101 rfl k
        · refine ⟨68, 96, by rw [q8]; rfl, rfl, ?_⟩
          replace k := k.2.2.2.2.1 q8
          refine wp_bipush dX3_lastDay_96 ⟨by decide, by decide⟩ ?_
          exact wp_iret dX3_lastDay_98 rfl k
    · replace k := k.2 q
      refine wp_iload_n 0 dX3_lastDay_13 rfl ?_
      refine wp_sipush dX3_lastDay_14 ⟨by decide, by decide⟩ ?_
      refine wp_irem dX3_lastDay_17 c1 (by decide) ?_
      refine wp_if_ne 25 dX3_lastDay_18 rfl (fun q => ?_) (fun q => ?_)
      · replace k := k.1 q
        refine wp_iconst dX3_lastDay_25 ⟨by decide, by decide⟩ ?_
        refine wp_istore_n [2, 0] (ls' := [(1, jI a1), (2, jI 0)]) dX3_lastDay_26 (by decide) rfl ?_
        refine wp_iload_n 0 dX3_lastDay_27 rfl ?_
        refine wp_table dX3_lastDay_28 99 rfl (fun q => ?_) (fun q q9 => ?_)
        · replace k := k.2.2.2.2.2 (by omega) (by omega) (by omega) (by omega) (by omega)
          refine wp_bipush dX3_lastDay_99 ⟨by decide, by decide⟩ ?_
          exact wp_iret dX3_lastDay_101 rfl k
        · have q8 : a1 = 2 ∨ a1 = 3 ∨ a1 = 4 ∨ a1 = 5 ∨ a1 = 6 ∨ a1 = 7 ∨ a1 = 8 ∨ a1 = 9 ∨ a1 = 10 ∨ a1 = 11 := by omega
          rcases q8 with q8 | q8 | q8 | q8 | q8 | q8 | q8 | q8 | q8 | q8
          · refine ⟨56, 84, by rw [q8]; rfl, rfl, ?_⟩
            replace k := k.1 q8
            refine wp_iload_n 1 dX3_lastDay_84 rfl ?_
            refine wp_if_eq 93 dX3_lastDay_85 rfl (fun q => ?_) (fun q => absurd q (by decide))
            refine wp_bipush dX3_lastDay_93 ⟨by decide, by decide⟩ ?_
            exact wp_iret dX3_lastDay_95 rfl k
          · refine ⟨71, 99, by rw [q8]; rfl, rfl, ?_⟩
            replace k := k.2.2.2.2.2 (by omega) (by omega) (by omega) (by omega) (by omega)
            refine wp_bipush dX3_lastDay_99 ⟨by decide, by decide⟩ ?_
            exact wp_iret dX3_lastDay_101 rfl k
          · refine ⟨68, 96, by rw [q8]; rfl, rfl, ?_⟩
            replace k := k.2.1 q8
            refine wp_bipush dX3_lastDay_96 ⟨by decide, by decide⟩ ?_
            exact wp_iret dX3_lastDay_98 rfl k
          · refine ⟨71, 99, by rw [q8]; rfl, rfl, ?_⟩
            replace k := k.2.2.2.2.2 (by omega) (by omega) (by omega) (by omega) (by omega)
            refine wp_bipush dX3_lastDay_99 ⟨by decide, by decide⟩ ?_
            exact wp_iret dX3_lastDay_101 rfl k
          · refine ⟨68, 96, by rw [q8]; rfl, rfl, ?_⟩
            replace k := k.2.2.1 q8
            refine wp_bipush dX3_lastDay_96 ⟨by decide, by decide⟩ ?_
            exact wp_iret dX3_lastDay_98 rfl k
          · refine ⟨71, 99, by rw [q8]; rfl, rfl, ?_⟩
            replace k := k.2.2.2.2.2 (by omega) (by omega) (by omega) (by omega) (by omega)
            refine wp_bipush dX3_lastDay_99 ⟨by decide, by decide⟩ ?_
            exact wp_iret dX3_lastDay_101 rfl k
          · refine ⟨71, 99, by rw [q8]; rfl, rfl, ?_⟩
            replace k := k.2.2.2.2.2 (by omega) (by omega) (by omega) (by omega) (by omega)
            refine wp_bipush dX3_lastDay_99 ⟨by decide, by decide⟩ ?_
            exact wp_iret dX3_lastDay_101 rfl k
          · refine ⟨68, 96, by rw [q8]; rfl, rfl, ?_⟩
            replace k := k.2.2.2.1 q8
            refine wp_bipush dX3_lastDay_96 ⟨by decide, by decide⟩ ?_
            exact wp_iret dX3_lastDay_98 rfl k
          · refine ⟨71, 99, by rw [q8]; rfl, rfl, ?_⟩
            replace k := k.2.2.2.2.2 (by omega) (by omega) (by omega) (by omega) (by omega)
            refine wp_bipush dX3_lastDay_99 ⟨by decide, by decide⟩ ?_
            exact wp_iret dX3_lastDay_101 rfl k
          · refine ⟨68, 96, by rw [q8]; rfl, rfl, ?_⟩
            replace k := k.2.2.2.2.1 q8
            refine wp_bipush dX3_lastDay_96 ⟨by decide, by decide⟩ ?_
            exact wp_iret dX3_lastDay_98 rfl k
      · replace k := k.2 q
        refine wp_iconst dX3_lastDay_21 ⟨by decide, by decide⟩ ?_
        refine wp_goto 26 dX3_lastDay_22 rfl ?_
        refine wp_istore_n [2, 0] (ls' := [(1, jI a1), (2, jI 1)]) dX3_lastDay_26 (by decide) rfl ?_
        refine wp_iload_n 0 dX3_lastDay_27 rfl ?_
        refine wp_table dX3_lastDay_28 99 rfl (fun q => ?_) (fun q q9 => ?_)
        · replace k := k.2.2.2.2.2 (by omega) (by omega) (by omega) (by omega) (by omega)
          refine wp_bipush dX3_lastDay_99 ⟨by decide, by decide⟩ ?_
          exact wp_iret dX3_lastDay_101 rfl k
        · have q8 : a1 = 2 ∨ a1 = 3 ∨ a1 = 4 ∨ a1 = 5 ∨ a1 = 6 ∨ a1 = 7 ∨ a1 = 8 ∨ a1 = 9 ∨ a1 = 10 ∨ a1 = 11 := by omega
          rcases q8 with q8 | q8 | q8 | q8 | q8 | q8 | q8 | q8 | q8 | q8
          · refine ⟨56, 84, by rw [q8]; rfl, rfl, ?_⟩
            replace k := k.1 q8
            refine wp_iload_n 1 dX3_lastDay_84 rfl ?_
            refine wp_if_eq 93 dX3_lastDay_85 rfl (fun q => absurd q (by decide)) (fun q => ?_)
            refine wp_bipush dX3_lastDay_88 ⟨by decide, by decide⟩ ?_
            refine wp_goto 95 dX3_lastDay_90 rfl ?_
            exact wp_iret dX3_lastDay_95 rfl k
          · refine ⟨71, 99, by rw [q8]; rfl, rfl, ?_⟩
            replace k := k.2.2.2.2.2 (by omega) (by omega) (by omega) (by omega) (by omega)
            refine wp_bipush dX3_lastDay_99 ⟨by decide, by decide⟩ ?_
            exact wp_iret dX3_lastDay_101 rfl k
          · refine ⟨68, 96, by rw [q8]; rfl, rfl, ?_⟩
            replace k := k.2.1 q8
            refine wp_bipush dX3_lastDay_96 ⟨by decide, by decide⟩ ?_
            exact wp_iret dX3_lastDay_98 rfl k
          · refine ⟨71, 99, by rw [q8]; rfl, rfl, ?_⟩
            replace k := k.2.2.2.2.2 (by omega) (by omega) (by omega) (by omega) (by omega)
            refine wp_bipush dX3_lastDay_99 ⟨by decide, by decide⟩ ?_
            exact wp_iret dX3_lastDay_101 rfl k
          · refine ⟨68, 96, by rw [q8]; rfl, rfl, ?_⟩
            replace k := k.2.2.1 q8
            refine wp_bipush dX3_lastDay_96 ⟨by decide, by decide⟩ ?_
            exact wp_iret dX3_lastDay_98 rfl k
          · refine ⟨71, 99, by rw [q8]; rfl, rfl, ?_⟩
            replace k := k.2.2.2.2.2 (by omega) (by omega) (by omega) (by omega) (by omega)
            refine wp_bipush dX3_lastDay_99 ⟨by decide, by decide⟩ ?_
            exact wp_iret dX3_lastDay_101 rfl k
          · refine ⟨71, 99, by rw [q8]; rfl, rfl, ?_⟩
            replace k := k.2.2.2.2.2 (by omega) (by omega) (by omega) (by omega) (by omega)
            refine wp_bipush dX3_lastDay_99 ⟨by decide, by decide⟩ ?_
            exact wp_iret dX3_lastDay_101 rfl k
          · refine ⟨68, 96, by rw [q8]; rfl, rfl, ?_⟩
            replace k := k.2.2.2.1 q8
            refine wp_bipush dX3_lastDay_96 ⟨by decide, by decide⟩ ?_
            exact wp_iret dX3_lastDay_98 rfl k
          · refine ⟨71, 99, by rw [q8]; rfl, rfl, ?_⟩
            replace k := k.2.2.2.2.2 (by omega) (by omega) (by omega) (by omega) (by omega)
            refine wp_bipush dX3_lastDay_99 ⟨by decide, by decide⟩ ?_
            exact wp_iret dX3_lastDay_101 rfl k
          · refine ⟨68, 96, by rw [q8]; rfl, rfl, ?_⟩
            replace k := k.2.2.2.2.1 q8
            refine wp_bipush dX3_lastDay_96 ⟨by decide, by decide⟩ ?_
            exact wp_iret dX3_lastDay_98 rfl k
theorem bX3_isDate {d : Nat} {h : jH} {Q : jO → jH → Prop} {a0 : Int} {a1 : Int} {a2 : Int} (k : jOK h → j32 a0 → j32 a1 → j32 a2 → ((a1 < 1 → Q (.inl (some (jI 0))) h) ∧ (¬ (a1 < 1) → ((12 < a1 → Q (.inl (some (jI 0))) h) ∧ (¬ (12 < a1) → ((a2 < 0 → Q (.inl (some (jI 0))) h) ∧ (¬ (a2 < 0) → jCall d mX3_lastDay [jI a0, jI a1] h (fun o h18 => ∃ v18, o = .inl (some (jI v18)) ∧ ((v18 < a2 → Q (.inl (some (jI 0))) h18) ∧ (¬ (v18 < a2) → Q (.inl (some (jI 1))) h18)))))))))) : jCall (d + 1) mX3_isDate [jI a0, jI a1, jI a2] h Q := by
  refine jCall_of plX3 (Nat.le_of_ble_eq_true rfl) ?_
  show jWp (d + 1) mX3_isDate 0 [(0, jI a0), (1, jI a1), (2, jI a2)] [] h Q
  refine jw_ok (fun ok q => ?_)
  replace k := k ok (q _ (.head _)) (q _ (.tail _ (.head _))) (q _ (.tail _ (.tail _ (.head _))))
  refine wp_iload_n 1 dX3_isDate_0 rfl ?_
  refine wp_iconst dX3_isDate_1 ⟨by decide, by decide⟩ ?_
  refine wp_icmp_lt 28 dX3_isDate_2 rfl (fun q => ?_) (fun q => ?_)
  · replace k := k.1 q
    refine wp_iconst dX3_isDate_28 ⟨by decide, by decide⟩ ?_
    exact wp_zreturn dX3_isDate_29 rfl (by decide) (by decide) k
  · replace k := k.2 q
    refine wp_iload_n 1 dX3_isDate_5 rfl ?_
    refine wp_bipush dX3_isDate_6 ⟨by decide, by decide⟩ ?_
    refine wp_icmp_gt 28 dX3_isDate_8 rfl (fun q => ?_) (fun q => ?_)
    · replace k := k.1 q
      refine wp_iconst dX3_isDate_28 ⟨by decide, by decide⟩ ?_
      exact wp_zreturn dX3_isDate_29 rfl (by decide) (by decide) k
    · replace k := k.2 q
      refine wp_iload_n 2 dX3_isDate_11 rfl ?_
      refine wp_if_lt 28 dX3_isDate_12 rfl (fun q => ?_) (fun q => ?_)
      · replace k := k.1 q
        refine wp_iconst dX3_isDate_28 ⟨by decide, by decide⟩ ?_
        exact wp_zreturn dX3_isDate_29 rfl (by decide) (by decide) k
      · replace k := k.2 q
        refine wp_iload_n 2 dX3_isDate_15 rfl ?_
        refine wp_iload_n 0 dX3_isDate_16 rfl ?_
        refine wp_iload_n 1 dX3_isDate_17 rfl ?_
        refine wp_callS (y' := mX3_lastDay) (st := [jI a2]) [jI a0, jI a1] rfl fX3_lastDay kX3_13 nX3_lastDay dX3_isDate_18 (Nat.le_of_ble_eq_true rfl) ?_
        refine jCall.mono k (fun o h18 k => ?_)
        obtain ⟨v18, e, k⟩ := k
        subst e
        show jWp (d + 1) mX3_isDate 21 [(0, jI a0), (1, jI a1), (2, jI a2)] [jI v18, jI a2] h18 Q
        refine wp_icmp_gt 28 dX3_isDate_21 rfl (fun q => ?_) (fun q => ?_)
        · replace k := k.1 q
          refine wp_iconst dX3_isDate_28 ⟨by decide, by decide⟩ ?_
          exact wp_zreturn dX3_isDate_29 rfl (by decide) (by decide) k
        · replace k := k.2 q
          refine wp_iconst dX3_isDate_24 ⟨by decide, by decide⟩ ?_
          refine wp_goto 29 dX3_isDate_25 rfl ?_
          exact wp_zreturn dX3_isDate_29 rfl (by decide) (by decide) k
theorem bX3_isTime {d : Nat} {h : jH} {Q : jO → jH → Prop} {a0 : Int} {a1 : Int} (k : jOK h → j32 a0 → j32 a1 → ((a0 < 0 → Q (.inl (some (jI 0))) h) ∧ (¬ (a0 < 0) → ((23 < a0 → Q (.inl (some (jI 0))) h) ∧ (¬ (23 < a0) → ((a1 < 0 → Q (.inl (some (jI 0))) h) ∧ (¬ (a1 < 0) → ((59 < a1 → Q (.inl (some (jI 0))) h) ∧ (¬ (59 < a1) → Q (.inl (some (jI 1))) h))))))))) : jCall d mX3_isTime [jI a0, jI a1] h Q := by
  refine jCall_of plX3 (Nat.le_of_ble_eq_true rfl) ?_
  show jWp d mX3_isTime 0 [(0, jI a0), (1, jI a1)] [] h Q
  refine jw_ok (fun ok q => ?_)
  replace k := k ok (q _ (.head _)) (q _ (.tail _ (.head _)))
  refine wp_iload_n 0 dX3_isTime_0 rfl ?_
  refine wp_if_lt 24 dX3_isTime_1 rfl (fun q => ?_) (fun q => ?_)
  · replace k := k.1 q
    refine wp_iconst dX3_isTime_24 ⟨by decide, by decide⟩ ?_
    exact wp_zreturn dX3_isTime_25 rfl (by decide) (by decide) k
  · replace k := k.2 q
    refine wp_iload_n 0 dX3_isTime_4 rfl ?_
    refine wp_bipush dX3_isTime_5 ⟨by decide, by decide⟩ ?_
    refine wp_icmp_gt 24 dX3_isTime_7 rfl (fun q => ?_) (fun q => ?_)
    · replace k := k.1 q
      refine wp_iconst dX3_isTime_24 ⟨by decide, by decide⟩ ?_
      exact wp_zreturn dX3_isTime_25 rfl (by decide) (by decide) k
    · replace k := k.2 q
      refine wp_iload_n 1 dX3_isTime_10 rfl ?_
      refine wp_if_lt 24 dX3_isTime_11 rfl (fun q => ?_) (fun q => ?_)
      · replace k := k.1 q
        refine wp_iconst dX3_isTime_24 ⟨by decide, by decide⟩ ?_
        exact wp_zreturn dX3_isTime_25 rfl (by decide) (by decide) k
      · replace k := k.2 q
        refine wp_iload_n 1 dX3_isTime_14 rfl ?_
        refine wp_bipush dX3_isTime_15 ⟨by decide, by decide⟩ ?_
        refine wp_icmp_gt 24 dX3_isTime_17 rfl (fun q => ?_) (fun q => ?_)
        · replace k := k.1 q
          refine wp_iconst dX3_isTime_24 ⟨by decide, by decide⟩ ?_
          exact wp_zreturn dX3_isTime_25 rfl (by decide) (by decide) k
        · replace k := k.2 q
          refine wp_iconst dX3_isTime_20 ⟨by decide, by decide⟩ ?_
          refine wp_goto 25 dX3_isTime_21 rfl ?_
          exact wp_zreturn dX3_isTime_25 rfl (by decide) (by decide) k
theorem bX7_init {d : Nat} {h : jH} {Q : jO → jH → Prop} {a0 : Nat} {a1 : Int} (k : jOK h → j32 a1 → a0 ≠ 0 ∧ jCall d mJ9_max_7cf53 [jI a1, jI 0] h (fun o h7 => ∃ v7, o = .inl (some (jI v7)) ∧ (0 ≤ v7 ∧ v7 ≤ 1000000) ∧ hK (sN h7 10 v7 (v7).toNat) a0 = 6 ∧ Q (.inl none) (sI (sR (sN h7 10 v7 (v7).toNat) 500 a0 (hS h7)) 501 a0 0))) : jCall (d + 1) mX7_init [jR a0, jI a1] h Q := by
  refine jCall_of plX7 (Nat.le_of_ble_eq_true rfl) ?_
  show jWp (d + 1) mX7_init 0 [(0, jR a0), (1, jI a1)] [] h Q
  refine jw_ok (fun ok q => ?_)
  replace k := k ok (q _ (.tail _ (.head _)))
  refine wp_aload_n 0 dX7_init_0 rfl ?_
  have c1 := k.1
  replace k := k.2
  refine wp_objInit dX7_init_1 kX7_3 c1 (Nat.le_of_ble_eq_true rfl) ?_
  refine wp_aload_n 0 dX7_init_4 rfl ?_
  refine wp_iload_n 1 dX7_init_5 rfl ?_
  refine wp_iconst dX7_init_6 ⟨by decide, by decide⟩ ?_
  refine wp_callS (y' := mJ9_max_7cf53) (st := [jR a0]) [jI a1, jI 0] rfl fJ9_max_7cf53 kX7_9 nJ9_max_7cf53 dX7_init_7 (Nat.le_of_ble_eq_true rfl) ?_
  refine jCall.mono k (fun o h7 k => ?_)
  obtain ⟨v7, e, k⟩ := k
  subst e
  show jWp (d + 1) mX7_init 10 [(0, jR a0), (1, jI a1)] [jI v7, jR a0] h7 Q
  have c2 := k.1
  replace k := k.2
  refine wp_newa (at' := .int) (ty := .int) rfl (Or.inl ⟨rfl, rfl⟩) ar_int dX7_init_10 c2 ?_
  have c3 := k.1
  replace k := k.2
  refine wp_putR (ci := 5) (j := 0) rfl (by decide) gX7_15 dX7_init_12 c3 (Or.inr ⟨rfl, rfl, rfl⟩) rfl ?_
  refine wp_aload_n 0 dX7_init_15 rfl ?_
  refine wp_iconst dX7_init_16 ⟨by decide, by decide⟩ ?_
  refine wp_putI (ci := 5) (j := 1) rfl (by decide) gX7_21 dX7_init_17 c3 (Or.inl rfl) rfl ?_
  exact wp_return dX7_init_20 rfl k
theorem bX7_count {d : Nat} {h : jH} {Q : jO → jH → Prop} {a0 : Nat} (k : jOK h → hK h a0 = 6 ∧ (j32 (hI h 501 a0) → Q (.inl (some (jI (hI h 501 a0)))) h)) : jCall d mX7_count [jR a0] h Q := by
  refine jCall_of plX7 (Nat.le_of_ble_eq_true rfl) ?_
  show jWp d mX7_count 0 [(0, jR a0)] [] h Q
  refine jw_ok (fun ok q => ?_)
  replace k := k ok 
  refine wp_aload_n 0 dX7_count_0 rfl ?_
  have c1 := k.1
  replace k := k.2
  refine wp_getI (ci := 5) (j := 1) rfl (by decide) gX7_21 dX7_count_1 c1 rfl (fun q => ?_)
  have f2 := q
  replace k := k q
  exact wp_iret dX7_count_4 rfl k
theorem bX7_at {d : Nat} {h : jH} {Q : jO → jH → Prop} {a0 : Nat} {a1 : Int} (k : jOK h → j32 a1 → ((a1 < 0 → Q (.inl (some (jI (-1)))) h) ∧ (¬ (a1 < 0) → hK h a0 = 6 ∧ (j32 (hI h 501 a0) → ((a1 < (hI h 501 a0) → hK h (hR h 500 a0) = 10 ∧ 0 ≤ a1 ∧ a1 < hN h (hR h 500 a0) ∧ (j32 (hA h (hR h 500 a0) a1) → Q (.inl (some (jI (hA h (hR h 500 a0) a1)))) h)) ∧ (¬ (a1 < (hI h 501 a0)) → Q (.inl (some (jI (-1)))) h)))))) : jCall d mX7_at [jR a0, jI a1] h Q := by
  refine jCall_of plX7 (Nat.le_of_ble_eq_true rfl) ?_
  show jWp d mX7_at 0 [(0, jR a0), (1, jI a1)] [] h Q
  refine jw_ok (fun ok q => ?_)
  replace k := k ok (q _ (.tail _ (.head _)))
  refine wp_iload_n 1 dX7_at_0 rfl ?_
  refine wp_if_lt 12 dX7_at_1 rfl (fun q => ?_) (fun q => ?_)
  · replace k := k.1 q
    refine wp_iconst dX7_at_12 ⟨by decide, by decide⟩ ?_
    refine wp_goto 22 dX7_at_13 rfl ?_
    exact wp_iret dX7_at_22 rfl k
  · replace k := k.2 q
    refine wp_iload_n 1 dX7_at_4 rfl ?_
    refine wp_aload_n 0 dX7_at_5 rfl ?_
    have c1 := k.1
    replace k := k.2
    refine wp_getI (ci := 5) (j := 1) rfl (by decide) gX7_21 dX7_at_6 c1 rfl (fun q => ?_)
    have f2 := q
    replace k := k q
    refine wp_icmp_lt 16 dX7_at_9 rfl (fun q => ?_) (fun q => ?_)
    · replace k := k.1 q
      refine wp_aload_n 0 dX7_at_16 rfl ?_
      refine wp_getR (ci := 5) (j := 0) rfl (by decide) gX7_15 dX7_at_17 c1 rfl ?_
      refine wp_iload_n 1 dX7_at_20 rfl ?_
      have c3 := k.1
      replace k := k.2
      have c4 := k.1
      replace k := k.2
      have c5 := k.1
      replace k := k.2
      refine wp_iaload dX7_at_21 c3 c4 c5 (fun q => ?_)
      have f6 := q
      replace k := k q
      exact wp_iret dX7_at_22 rfl k
    · replace k := k.2 q
      refine wp_iconst dX7_at_12 ⟨by decide, by decide⟩ ?_
      refine wp_goto 22 dX7_at_13 rfl ?_
      exact wp_iret dX7_at_22 rfl k
theorem bX7_put {d : Nat} {h : jH} {Q : jO → jH → Prop} {a0 : Nat} {a1 : Int} (k : jOK h → j32 a1 → hK h a0 = 6 ∧ (j32 (hI h 501 a0) → hK h (hR h 500 a0) = 10 ∧ (0 ≤ (hN h (hR h 500 a0)) → (((hN h (hR h 500 a0)) ≤ (hI h 501 a0) → Q (.inl none) h) ∧ (¬ ((hN h (hR h 500 a0)) ≤ (hI h 501 a0)) → 0 ≤ (hI h 501 a0) ∧ (hI h 501 a0) < hN h (hR h 500 a0) ∧ j32 ((hI h 501 a0) + 1) ∧ Q (.inl none) (sI (sA h (hR h 500 a0) (hI h 501 a0) a1) 501 a0 ((hI h 501 a0) + 1))))))) : jCall d mX7_put [jR a0, jI a1] h Q := by
  refine jCall_of plX7 (Nat.le_of_ble_eq_true rfl) ?_
  show jWp d mX7_put 0 [(0, jR a0), (1, jI a1)] [] h Q
  refine jw_ok (fun ok q => ?_)
  replace k := k ok (q _ (.tail _ (.head _)))
  refine wp_aload_n 0 dX7_put_0 rfl ?_
  have c1 := k.1
  replace k := k.2
  refine wp_getI (ci := 5) (j := 1) rfl (by decide) gX7_21 dX7_put_1 c1 rfl (fun q => ?_)
  have f2 := q
  replace k := k q
  refine wp_aload_n 0 dX7_put_4 rfl ?_
  refine wp_getR (ci := 5) (j := 0) rfl (by decide) gX7_15 dX7_put_5 c1 rfl ?_
  have c3 := k.1
  replace k := k.2
  refine wp_alen (n := 10) dX7_put_8 c3 ⟨by decide, by decide⟩ (fun q q9 => ?_)
  have f4 := q
  replace k := k q
  refine wp_icmp_ge 32 dX7_put_9 rfl (fun q => ?_) (fun q => ?_)
  · replace k := k.1 q
    exact wp_return dX7_put_32 rfl k
  · replace k := k.2 q
    refine wp_aload_n 0 dX7_put_12 rfl ?_
    refine wp_getR (ci := 5) (j := 0) rfl (by decide) gX7_15 dX7_put_13 c1 rfl ?_
    refine wp_aload_n 0 dX7_put_16 rfl ?_
    refine wp_getI (ci := 5) (j := 1) rfl (by decide) gX7_21 dX7_put_17 c1 rfl (fun q => ?_)
    refine wp_iload_n 1 dX7_put_20 rfl ?_
    have c5 := k.1
    replace k := k.2
    have c6 := k.1
    replace k := k.2
    refine wp_iastore dX7_put_21 c3 c5 c6 ?_
    refine wp_aload_n 0 dX7_put_22 rfl ?_
    refine wp_dup dX7_put_23 rfl ?_
    refine wp_getI (ci := 5) (j := 1) rfl (by decide) gX7_21 dX7_put_24 c1 rfl (fun q => ?_)
    refine wp_iconst dX7_put_27 ⟨by decide, by decide⟩ ?_
    have c7 := k.1
    replace k := k.2
    refine wp_iadd dX7_put_28 c7 ?_
    refine wp_putI (ci := 5) (j := 1) rfl (by decide) gX7_21 dX7_put_29 c1 (Or.inl rfl) rfl ?_
    exact wp_return dX7_put_32 rfl k
theorem bX7_replace {d : Nat} {h : jH} {Q : jO → jH → Prop} {a0 : Nat} {a1 : Int} {a2 : Int} (k : jOK h → j32 a1 → j32 a2 → ((a1 < 0 → Q (.inl (some (jI (-1)))) h) ∧ (¬ (a1 < 0) → hK h a0 = 6 ∧ (j32 (hI h 501 a0) → ((a1 < (hI h 501 a0) → hK h (hR h 500 a0) = 10 ∧ 0 ≤ a1 ∧ a1 < hN h (hR h 500 a0) ∧ (j32 (hA h (hR h 500 a0) a1) → Q (.inl (some (jI (hA h (hR h 500 a0) a1)))) (sA h (hR h 500 a0) a1 a2))) ∧ (¬ (a1 < (hI h 501 a0)) → Q (.inl (some (jI (-1)))) h)))))) : jCall d mX7_replace [jR a0, jI a1, jI a2] h Q := by
  refine jCall_of plX7 (Nat.le_of_ble_eq_true rfl) ?_
  show jWp d mX7_replace 0 [(0, jR a0), (1, jI a1), (2, jI a2)] [] h Q
  refine jw_ok (fun ok q => ?_)
  replace k := k ok (q _ (.tail _ (.head _))) (q _ (.tail _ (.tail _ (.head _))))
  refine wp_iload_n 1 dX7_replace_0 rfl ?_
  refine wp_if_lt 12 dX7_replace_1 rfl (fun q => ?_) (fun q => ?_)
  · replace k := k.1 q
    refine wp_iconst dX7_replace_12 ⟨by decide, by decide⟩ ?_
    exact wp_iret dX7_replace_13 rfl k
  · replace k := k.2 q
    refine wp_iload_n 1 dX7_replace_4 rfl ?_
    refine wp_aload_n 0 dX7_replace_5 rfl ?_
    have c1 := k.1
    replace k := k.2
    refine wp_getI (ci := 5) (j := 1) rfl (by decide) gX7_21 dX7_replace_6 c1 rfl (fun q => ?_)
    have f2 := q
    replace k := k q
    refine wp_icmp_lt 14 dX7_replace_9 rfl (fun q => ?_) (fun q => ?_)
    · replace k := k.1 q
      refine wp_aload_n 0 dX7_replace_14 rfl ?_
      refine wp_getR (ci := 5) (j := 0) rfl (by decide) gX7_15 dX7_replace_15 c1 rfl ?_
      refine wp_iload_n 1 dX7_replace_18 rfl ?_
      have c3 := k.1
      replace k := k.2
      have c4 := k.1
      replace k := k.2
      have c5 := k.1
      replace k := k.2
      refine wp_iaload dX7_replace_19 c3 c4 c5 (fun q => ?_)
      have f6 := q
      replace k := k q
      refine wp_istore_n [1, 2, 3, 0] (ls' := [(0, jR a0), (1, jI a1), (2, jI a2), (3, jI (hA h (hR h 500 a0) a1))]) dX7_replace_20 (by decide) rfl ?_
      refine wp_aload_n 0 dX7_replace_21 rfl ?_
      refine wp_getR (ci := 5) (j := 0) rfl (by decide) gX7_15 dX7_replace_22 c1 rfl ?_
      refine wp_iload_n 1 dX7_replace_25 rfl ?_
      refine wp_iload_n 2 dX7_replace_26 rfl ?_
      refine wp_iastore dX7_replace_27 c3 c4 c5 ?_
      refine wp_iload_n 3 dX7_replace_28 rfl ?_
      exact wp_iret dX7_replace_29 rfl k
    · replace k := k.2 q
      refine wp_iconst dX7_replace_12 ⟨by decide, by decide⟩ ?_
      exact wp_iret dX7_replace_13 rfl k
theorem bX7_clear {d : Nat} {h : jH} {Q : jO → jH → Prop} {a0 : Nat} (k : jOK h → hK h a0 = 6 ∧ Q (.inl none) (sI h 501 a0 0)) : jCall d mX7_clear [jR a0] h Q := by
  refine jCall_of plX7 (Nat.le_of_ble_eq_true rfl) ?_
  show jWp d mX7_clear 0 [(0, jR a0)] [] h Q
  refine jw_ok (fun ok q => ?_)
  replace k := k ok 
  refine wp_aload_n 0 dX7_clear_0 rfl ?_
  refine wp_iconst dX7_clear_1 ⟨by decide, by decide⟩ ?_
  have c1 := k.1
  replace k := k.2
  refine wp_putI (ci := 5) (j := 1) rfl (by decide) gX7_21 dX7_clear_2 c1 (Or.inl rfl) rfl ?_
  exact wp_return dX7_clear_5 rfl k
theorem bX7_shorten {d : Nat} {h : jH} {Q : jO → jH → Prop} {a0 : Nat} {a1 : Int} (k : jOK h → j32 a1 → ((a1 < 0 → Q (.inl (some (jI 0))) h) ∧ (¬ (a1 < 0) → hK h a0 = 6 ∧ (j32 (hI h 501 a0) → ((a1 ≤ (hI h 501 a0) → Q (.inl (some (jI 1))) (sI h 501 a0 a1)) ∧ (¬ (a1 ≤ (hI h 501 a0)) → Q (.inl (some (jI 0))) h)))))) : jCall d mX7_shorten [jR a0, jI a1] h Q := by
  refine jCall_of plX7 (Nat.le_of_ble_eq_true rfl) ?_
  show jWp d mX7_shorten 0 [(0, jR a0), (1, jI a1)] [] h Q
  refine jw_ok (fun ok q => ?_)
  replace k := k ok (q _ (.tail _ (.head _)))
  refine wp_iload_n 1 dX7_shorten_0 rfl ?_
  refine wp_if_lt 12 dX7_shorten_1 rfl (fun q => ?_) (fun q => ?_)
  · replace k := k.1 q
    refine wp_iconst dX7_shorten_12 ⟨by decide, by decide⟩ ?_
    exact wp_zreturn dX7_shorten_13 rfl (by decide) (by decide) k
  · replace k := k.2 q
    refine wp_iload_n 1 dX7_shorten_4 rfl ?_
    refine wp_aload_n 0 dX7_shorten_5 rfl ?_
    have c1 := k.1
    replace k := k.2
    refine wp_getI (ci := 5) (j := 1) rfl (by decide) gX7_21 dX7_shorten_6 c1 rfl (fun q => ?_)
    have f2 := q
    replace k := k q
    refine wp_icmp_le 14 dX7_shorten_9 rfl (fun q => ?_) (fun q => ?_)
    · replace k := k.1 q
      refine wp_aload_n 0 dX7_shorten_14 rfl ?_
      refine wp_iload_n 1 dX7_shorten_15 rfl ?_
      refine wp_putI (ci := 5) (j := 1) rfl (by decide) gX7_21 dX7_shorten_16 c1 (Or.inl rfl) rfl ?_
      refine wp_iconst dX7_shorten_19 ⟨by decide, by decide⟩ ?_
      exact wp_zreturn dX7_shorten_20 rfl (by decide) (by decide) k
    · replace k := k.2 q
      refine wp_iconst dX7_shorten_12 ⟨by decide, by decide⟩ ?_
      exact wp_zreturn dX7_shorten_13 rfl (by decide) (by decide) k
theorem bX7_copyFrom {d : Nat} {h : jH} {Q : jO → jH → Prop} {a0 : Nat} {a1 : Nat} (k : jOK h → hK h a1 = 6 ∧ (j32 (hI h 501 a1) → hK h a0 = 6 ∧ hK h (hR h 500 a0) = 10 ∧ (0 ≤ (hN h (hR h 500 a0)) → jCall d mJ9_min_7cf53 [jI (hI h 501 a1), jI (hN h (hR h 500 a0))] h (fun o h9 => ∃ v9, o = .inl (some (jI v9)) ∧ hK h9 a1 = 6 ∧ hK h9 a0 = 6 ∧ hK h9 (hR h9 500 a1) = 10 ∧ hK h9 (hR h9 500 a0) = 10 ∧ 0 ≤ v9 ∧ v9 ≤ hN h9 (hR h9 500 a1) ∧ v9 ≤ hN h9 (hR h9 500 a0) ∧ Q (.inl none) (sI (sF h9 (hR h9 500 a0) (fun j => if 0 ≤ j ∧ j < v9 then hA h9 (hR h9 500 a1) j else hA h9 (hR h9 500 a0) j)) 501 a0 v9))))) : jCall (d + 1) mX7_copyFrom [jR a0, jR a1] h Q := by
  refine jCall_of plX7 (Nat.le_of_ble_eq_true rfl) ?_
  show jWp (d + 1) mX7_copyFrom 0 [(0, jR a0), (1, jR a1)] [] h Q
  refine jw_ok (fun ok q => ?_)
  replace k := k ok 
  refine wp_aload_n 1 dX7_copyFrom_0 rfl ?_
  have c1 := k.1
  replace k := k.2
  refine wp_getI (ci := 5) (j := 1) rfl (by decide) gX7_21 dX7_copyFrom_1 c1 rfl (fun q => ?_)
  have f2 := q
  replace k := k q
  refine wp_aload_n 0 dX7_copyFrom_4 rfl ?_
  have c3 := k.1
  replace k := k.2
  refine wp_getR (ci := 5) (j := 0) rfl (by decide) gX7_15 dX7_copyFrom_5 c3 rfl ?_
  have c4 := k.1
  replace k := k.2
  refine wp_alen (n := 10) dX7_copyFrom_8 c4 ⟨by decide, by decide⟩ (fun q q9 => ?_)
  have f5 := q
  replace k := k q
  refine wp_callS (y' := mJ9_min_7cf53) (st := []) [jI (hI h 501 a1), jI (hN h (hR h 500 a0))] rfl fJ9_min_7cf53 kX7_25 nJ9_min_7cf53 dX7_copyFrom_9 (Nat.le_of_ble_eq_true rfl) ?_
  refine jCall.mono k (fun o h9 k => ?_)
  obtain ⟨v9, e, k⟩ := k
  subst e
  show jWp (d + 1) mX7_copyFrom 12 [(0, jR a0), (1, jR a1)] [jI v9] h9 Q
  refine wp_istore_n [1, 2, 0] (ls' := [(0, jR a0), (1, jR a1), (2, jI v9)]) dX7_copyFrom_12 (by decide) rfl ?_
  refine wp_aload_n 1 dX7_copyFrom_13 rfl ?_
  have c6 := k.1
  replace k := k.2
  refine wp_getR (ci := 5) (j := 0) rfl (by decide) gX7_15 dX7_copyFrom_14 c6 rfl ?_
  refine wp_iconst dX7_copyFrom_17 ⟨by decide, by decide⟩ ?_
  refine wp_aload_n 0 dX7_copyFrom_18 rfl ?_
  have c7 := k.1
  replace k := k.2
  refine wp_getR (ci := 5) (j := 0) rfl (by decide) gX7_15 dX7_copyFrom_19 c7 rfl ?_
  refine wp_iconst dX7_copyFrom_22 ⟨by decide, by decide⟩ ?_
  refine wp_iload_n 2 dX7_copyFrom_23 rfl ?_
  have c8 := k.1
  replace k := k.2
  have c9 := k.1
  replace k := k.2
  have c10 := k.1
  replace k := k.2
  have c11 := k.1
  replace k := k.2
  have c12 := k.1
  replace k := k.2
  refine wp_copy kX7_28 dX7_copyFrom_24 c8 c9 c10 c11 c12 (Nat.le_of_ble_eq_true rfl) ?_
  refine wp_aload_n 0 dX7_copyFrom_27 rfl ?_
  refine wp_iload_n 2 dX7_copyFrom_28 rfl ?_
  refine wp_putI (ci := 5) (j := 1) rfl (by decide) gX7_21 dX7_copyFrom_29 c7 (Or.inl rfl) rfl ?_
  exact wp_return dX7_copyFrom_32 rfl k
theorem bX7_append {d : Nat} {h : jH} {Q : jO → jH → Prop} {a0 : Nat} {a1 : Nat} (k : jOK h → jWp (d + 1) mX7_append 2 [(0, jR a0), (1, jR a1), (2, jI 0)] [] h Q) : jCall (d + 1) mX7_append [jR a0, jR a1] h Q := by
  refine jCall_of plX7 (Nat.le_of_ble_eq_true rfl) ?_
  show jWp (d + 1) mX7_append 0 [(0, jR a0), (1, jR a1)] [] h Q
  refine jw_ok (fun ok q => ?_)
  replace k := k ok 
  refine wp_iconst dX7_append_0 ⟨by decide, by decide⟩ ?_
  refine wp_istore_n [1, 2, 0] (ls' := [(0, jR a0), (1, jR a1), (2, jI 0)]) dX7_append_1 (by decide) rfl ?_
  exact k
theorem bX7_append_2 {d : Nat} {h : jH} {Q : jO → jH → Prop} {a0 : Nat} {a1 : Nat} {a2 : Int} (k : jOK h → j32 a2 → hK h a1 = 6 ∧ (j32 (hI h 501 a1) → (((hI h 501 a1) ≤ a2 → Q (.inl none) h) ∧ (¬ ((hI h 501 a1) ≤ a2) → hK h (hR h 500 a1) = 10 ∧ 0 ≤ a2 ∧ a2 < hN h (hR h 500 a1) ∧ (j32 (hA h (hR h 500 a1) a2) → hK h a0 = 6 ∧ jCall d mX7_put [jR a0, jI (hA h (hR h 500 a1) a2)] h (fun o h17 => o = .inl none ∧ j32 (a2 + 1) ∧ jWp (d + 1) mX7_append 2 [(0, jR a0), (1, jR a1), (2, jI (a2 + 1))] [] h17 Q)))))) : jWp (d + 1) mX7_append 2 [(0, jR a0), (1, jR a1), (2, jI a2)] [] h Q := by
  refine jw_ok (fun ok q => ?_)
  replace k := k ok (q _ (.tail _ (.tail _ (.head _))))
  refine wp_iload_n 2 dX7_append_2 rfl ?_
  refine wp_aload_n 1 dX7_append_3 rfl ?_
  have c1 := k.1
  replace k := k.2
  refine wp_getI (ci := 5) (j := 1) rfl (by decide) gX7_21 dX7_append_4 c1 rfl (fun q => ?_)
  have f2 := q
  replace k := k q
  refine wp_icmp_ge 26 dX7_append_7 rfl (fun q => ?_) (fun q => ?_)
  · replace k := k.1 q
    exact wp_return dX7_append_26 rfl k
  · replace k := k.2 q
    refine wp_aload_n 0 dX7_append_10 rfl ?_
    refine wp_aload_n 1 dX7_append_11 rfl ?_
    refine wp_getR (ci := 5) (j := 0) rfl (by decide) gX7_15 dX7_append_12 c1 rfl ?_
    refine wp_iload_n 2 dX7_append_15 rfl ?_
    have c3 := k.1
    replace k := k.2
    have c4 := k.1
    replace k := k.2
    have c5 := k.1
    replace k := k.2
    refine wp_iaload dX7_append_16 c3 c4 c5 (fun q => ?_)
    have f6 := q
    replace k := k q
    have c7 := k.1
    replace k := k.2
    refine wp_callV (ci := 5) (y' := mX7_put) (st := []) [jI (hA h (hR h 500 a1) a2)] rfl rfl rfl fX7_put kX7_34 nX7_put dX7_append_17 (Nat.le_of_ble_eq_true rfl) c7 ?_
    refine jCall.mono k (fun o h17 k => ?_)
    obtain ⟨e, k⟩ := k
    subst e
    show jWp (d + 1) mX7_append 20 [(0, jR a0), (1, jR a1), (2, jI a2)] [] h17 Q
    have c8 := k.1
    replace k := k.2
    refine wp_iinc 2 [1, 2, 0] (ls' := [(0, jR a0), (1, jR a1), (2, jI (a2 + 1))]) dX7_append_20 rfl c8 ⟨by decide, by decide⟩ (by decide) rfl ?_
    refine wp_goto 2 dX7_append_23 rfl ?_
    exact k
theorem bX7_turnRound {d : Nat} {h : jH} {Q : jO → jH → Prop} {a0 : Nat} (k : jOK h → jWp d mX7_turnRound 2 [(0, jR a0), (1, jI 0)] [] h Q) : jCall d mX7_turnRound [jR a0] h Q := by
  refine jCall_of plX7 (Nat.le_of_ble_eq_true rfl) ?_
  show jWp d mX7_turnRound 0 [(0, jR a0)] [] h Q
  refine jw_ok (fun ok q => ?_)
  replace k := k ok 
  refine wp_iconst dX7_turnRound_0 ⟨by decide, by decide⟩ ?_
  refine wp_istore_n [1, 0] (ls' := [(0, jR a0), (1, jI 0)]) dX7_turnRound_1 (by decide) rfl ?_
  exact k
theorem bX7_turnRound_2 {d : Nat} {h : jH} {Q : jO → jH → Prop} {a0 : Nat} {a1 : Int} (k : jOK h → j32 a1 → hK h a0 = 6 ∧ (j32 (hI h 501 a0) → 0 ≤ (hI h 501 a0) ∧ ((((hI h 501 a0) / 2) ≤ a1 → Q (.inl none) h) ∧ (¬ (((hI h 501 a0) / 2) ≤ a1) → j32 ((hI h 501 a0) - 1) ∧ j32 (((hI h 501 a0) - 1) - a1) ∧ hK h (hR h 500 a0) = 10 ∧ 0 ≤ a1 ∧ a1 < hN h (hR h 500 a0) ∧ (j32 (hA h (hR h 500 a0) a1) → 0 ≤ (((hI h 501 a0) - 1) - a1) ∧ (((hI h 501 a0) - 1) - a1) < hN h (hR h 500 a0) ∧ (j32 (hA h (hR h 500 a0) (((hI h 501 a0) - 1) - a1)) → j32 (a1 + 1) ∧ jWp d mX7_turnRound 2 [(0, jR a0), (1, jI (a1 + 1))] [] (sA (sA h (hR h 500 a0) a1 (hA h (hR h 500 a0) (((hI h 501 a0) - 1) - a1))) (hR h 500 a0) (((hI h 501 a0) - 1) - a1) (hA h (hR h 500 a0) a1)) Q)))))) : jWp d mX7_turnRound 2 [(0, jR a0), (1, jI a1)] [] h Q := by
  refine jw_ok (fun ok q => ?_)
  replace k := k ok (q _ (.tail _ (.head _)))
  refine wp_iload_n 1 dX7_turnRound_2 rfl ?_
  refine wp_aload_n 0 dX7_turnRound_3 rfl ?_
  have c1 := k.1
  replace k := k.2
  refine wp_getI (ci := 5) (j := 1) rfl (by decide) gX7_21 dX7_turnRound_4 c1 rfl (fun q => ?_)
  have f2 := q
  replace k := k q
  refine wp_iconst dX7_turnRound_7 ⟨by decide, by decide⟩ ?_
  have c3 := k.1
  replace k := k.2
  refine wp_idiv dX7_turnRound_8 c3 (by decide) ?_
  refine wp_icmp_ge 53 dX7_turnRound_9 rfl (fun q => ?_) (fun q => ?_)
  · replace k := k.1 q
    exact wp_return dX7_turnRound_53 rfl k
  · replace k := k.2 q
    refine wp_aload_n 0 dX7_turnRound_12 rfl ?_
    refine wp_getI (ci := 5) (j := 1) rfl (by decide) gX7_21 dX7_turnRound_13 c1 rfl (fun q => ?_)
    refine wp_iconst dX7_turnRound_16 ⟨by decide, by decide⟩ ?_
    have c4 := k.1
    replace k := k.2
    refine wp_isub dX7_turnRound_17 c4 ?_
    refine wp_iload_n 1 dX7_turnRound_18 rfl ?_
    have c5 := k.1
    replace k := k.2
    refine wp_isub dX7_turnRound_19 c5 ?_
    refine wp_istore_n [1, 2, 0] (ls' := [(0, jR a0), (1, jI a1), (2, jI (((hI h 501 a0) - 1) - a1))]) dX7_turnRound_20 (by decide) rfl ?_
    refine wp_aload_n 0 dX7_turnRound_21 rfl ?_
    refine wp_getR (ci := 5) (j := 0) rfl (by decide) gX7_15 dX7_turnRound_22 c1 rfl ?_
    refine wp_iload_n 1 dX7_turnRound_25 rfl ?_
    have c6 := k.1
    replace k := k.2
    have c7 := k.1
    replace k := k.2
    have c8 := k.1
    replace k := k.2
    refine wp_iaload dX7_turnRound_26 c6 c7 c8 (fun q => ?_)
    have f9 := q
    replace k := k q
    refine wp_istore_n [1, 2, 3, 0] (ls' := [(0, jR a0), (1, jI a1), (2, jI (((hI h 501 a0) - 1) - a1)), (3, jI (hA h (hR h 500 a0) a1))]) dX7_turnRound_27 (by decide) rfl ?_
    refine wp_aload_n 0 dX7_turnRound_28 rfl ?_
    refine wp_getR (ci := 5) (j := 0) rfl (by decide) gX7_15 dX7_turnRound_29 c1 rfl ?_
    refine wp_iload_n 1 dX7_turnRound_32 rfl ?_
    refine wp_aload_n 0 dX7_turnRound_33 rfl ?_
    refine wp_getR (ci := 5) (j := 0) rfl (by decide) gX7_15 dX7_turnRound_34 c1 rfl ?_
    refine wp_iload_n 2 dX7_turnRound_37 rfl ?_
    have c10 := k.1
    replace k := k.2
    have c11 := k.1
    replace k := k.2
    refine wp_iaload dX7_turnRound_38 c6 c10 c11 (fun q => ?_)
    have f12 := q
    replace k := k q
    refine wp_iastore dX7_turnRound_39 c6 c7 c8 ?_
    refine wp_aload_n 0 dX7_turnRound_40 rfl ?_
    refine wp_getR (ci := 5) (j := 0) rfl (by decide) gX7_15 dX7_turnRound_41 c1 rfl ?_
    refine wp_iload_n 2 dX7_turnRound_44 rfl ?_
    refine wp_iload_n 3 dX7_turnRound_45 rfl ?_
    refine wp_iastore dX7_turnRound_46 c6 c10 c11 ?_
    have c13 := k.1
    replace k := k.2
    refine wp_iinc 1 [1, 0] (ls' := [(0, jR a0), (1, jI (a1 + 1))]) dX7_turnRound_47 rfl c13 ⟨by decide, by decide⟩ (by decide) rfl ?_
    refine wp_goto 2 dX7_turnRound_50 rfl ?_
    exact k
theorem bX7_isSameAs {d : Nat} {h : jH} {Q : jO → jH → Prop} {a0 : Nat} {a1 : Nat} (k : jOK h → hK h a0 = 6 ∧ (j32 (hI h 501 a0) → hK h a1 = 6 ∧ (j32 (hI h 501 a1) → (((hI h 501 a0) = (hI h 501 a1) → jWp d mX7_isSameAs 15 [(0, jR a0), (1, jR a1), (2, jI 0)] [] h Q) ∧ (¬ ((hI h 501 a0) = (hI h 501 a1)) → Q (.inl (some (jI 0))) h))))) : jCall d mX7_isSameAs [jR a0, jR a1] h Q := by
  refine jCall_of plX7 (Nat.le_of_ble_eq_true rfl) ?_
  show jWp d mX7_isSameAs 0 [(0, jR a0), (1, jR a1)] [] h Q
  refine jw_ok (fun ok q => ?_)
  replace k := k ok 
  refine wp_aload_n 0 dX7_isSameAs_0 rfl ?_
  have c1 := k.1
  replace k := k.2
  refine wp_getI (ci := 5) (j := 1) rfl (by decide) gX7_21 dX7_isSameAs_1 c1 rfl (fun q => ?_)
  have f2 := q
  replace k := k q
  refine wp_aload_n 1 dX7_isSameAs_4 rfl ?_
  have c3 := k.1
  replace k := k.2
  refine wp_getI (ci := 5) (j := 1) rfl (by decide) gX7_21 dX7_isSameAs_5 c3 rfl (fun q => ?_)
  have f4 := q
  replace k := k q
  refine wp_icmp_eq 13 dX7_isSameAs_8 rfl (fun q => ?_) (fun q => ?_)
  · replace k := k.1 q
    refine wp_iconst dX7_isSameAs_13 ⟨by decide, by decide⟩ ?_
    refine wp_istore_n [1, 2, 0] (ls' := [(0, jR a0), (1, jR a1), (2, jI 0)]) dX7_isSameAs_14 (by decide) rfl ?_
    exact k
  · replace k := k.2 q
    refine wp_iconst dX7_isSameAs_11 ⟨by decide, by decide⟩ ?_
    exact wp_zreturn dX7_isSameAs_12 rfl (by decide) (by decide) k
theorem bX7_isSameAs_15 {d : Nat} {h : jH} {Q : jO → jH → Prop} {a0 : Nat} {a1 : Nat} {a2 : Int} (k : jOK h → j32 a2 → hK h a0 = 6 ∧ (j32 (hI h 501 a0) → (((hI h 501 a0) ≤ a2 → Q (.inl (some (jI 1))) h) ∧ (¬ ((hI h 501 a0) ≤ a2) → hK h (hR h 500 a0) = 10 ∧ 0 ≤ a2 ∧ a2 < hN h (hR h 500 a0) ∧ (j32 (hA h (hR h 500 a0) a2) → hK h a1 = 6 ∧ hK h (hR h 500 a1) = 10 ∧ a2 < hN h (hR h 500 a1) ∧ (j32 (hA h (hR h 500 a1) a2) → (((hA h (hR h 500 a0) a2) = (hA h (hR h 500 a1) a2) → j32 (a2 + 1) ∧ jWp d mX7_isSameAs 15 [(0, jR a0), (1, jR a1), (2, jI (a2 + 1))] [] h Q) ∧ (¬ ((hA h (hR h 500 a0) a2) = (hA h (hR h 500 a1) a2)) → Q (.inl (some (jI 0))) h)))))))) : jWp d mX7_isSameAs 15 [(0, jR a0), (1, jR a1), (2, jI a2)] [] h Q := by
  refine jw_ok (fun ok q => ?_)
  replace k := k ok (q _ (.tail _ (.tail _ (.head _))))
  refine wp_iload_n 2 dX7_isSameAs_15 rfl ?_
  refine wp_aload_n 0 dX7_isSameAs_16 rfl ?_
  have c1 := k.1
  replace k := k.2
  refine wp_getI (ci := 5) (j := 1) rfl (by decide) gX7_21 dX7_isSameAs_17 c1 rfl (fun q => ?_)
  have f2 := q
  replace k := k q
  refine wp_icmp_ge 46 dX7_isSameAs_20 rfl (fun q => ?_) (fun q => ?_)
  · replace k := k.1 q
    refine wp_iconst dX7_isSameAs_46 ⟨by decide, by decide⟩ ?_
    exact wp_zreturn dX7_isSameAs_47 rfl (by decide) (by decide) k
  · replace k := k.2 q
    refine wp_aload_n 0 dX7_isSameAs_23 rfl ?_
    refine wp_getR (ci := 5) (j := 0) rfl (by decide) gX7_15 dX7_isSameAs_24 c1 rfl ?_
    refine wp_iload_n 2 dX7_isSameAs_27 rfl ?_
    have c3 := k.1
    replace k := k.2
    have c4 := k.1
    replace k := k.2
    have c5 := k.1
    replace k := k.2
    refine wp_iaload dX7_isSameAs_28 c3 c4 c5 (fun q => ?_)
    have f6 := q
    replace k := k q
    refine wp_aload_n 1 dX7_isSameAs_29 rfl ?_
    have c7 := k.1
    replace k := k.2
    refine wp_getR (ci := 5) (j := 0) rfl (by decide) gX7_15 dX7_isSameAs_30 c7 rfl ?_
    refine wp_iload_n 2 dX7_isSameAs_33 rfl ?_
    have c8 := k.1
    replace k := k.2
    have c9 := k.1
    replace k := k.2
    refine wp_iaload dX7_isSameAs_34 c8 c4 c9 (fun q => ?_)
    have f10 := q
    replace k := k q
    refine wp_icmp_eq 40 dX7_isSameAs_35 rfl (fun q => ?_) (fun q => ?_)
    · replace k := k.1 q
      have c11 := k.1
      replace k := k.2
      refine wp_iinc 2 [1, 2, 0] (ls' := [(0, jR a0), (1, jR a1), (2, jI (a2 + 1))]) dX7_isSameAs_40 rfl c11 ⟨by decide, by decide⟩ (by decide) rfl ?_
      refine wp_goto 15 dX7_isSameAs_43 rfl ?_
      exact k
    · replace k := k.2 q
      refine wp_iconst dX7_isSameAs_38 ⟨by decide, by decide⟩ ?_
      exact wp_zreturn dX7_isSameAs_39 rfl (by decide) (by decide) k
theorem bX7_areDigits {d : Nat} {h : jH} {Q : jO → jH → Prop} {a0 : Nat} {a1 : Int} {a2 : Int} (k : jOK h → j32 a1 → j32 a2 → ((a1 < 0 → Q (.inl (some (jI 0))) h) ∧ (¬ (a1 < 0) → ((a2 < 0 → Q (.inl (some (jI 0))) h) ∧ (¬ (a2 < 0) → hK h a0 = 6 ∧ (j32 (hI h 501 a0) → j32 ((hI h 501 a0) - a1) ∧ ((a2 ≤ ((hI h 501 a0) - a1) → jWp d mX7_areDigits 22 [(0, jR a0), (1, jI a1), (2, jI a2), (3, jI a1)] [] h Q) ∧ (¬ (a2 ≤ ((hI h 501 a0) - a1)) → Q (.inl (some (jI 0))) h)))))))) : jCall d mX7_areDigits [jR a0, jI a1, jI a2] h Q := by
  refine jCall_of plX7 (Nat.le_of_ble_eq_true rfl) ?_
  show jWp d mX7_areDigits 0 [(0, jR a0), (1, jI a1), (2, jI a2)] [] h Q
  refine jw_ok (fun ok q => ?_)
  replace k := k ok (q _ (.tail _ (.head _))) (q _ (.tail _ (.tail _ (.head _))))
  refine wp_iload_n 1 dX7_areDigits_0 rfl ?_
  refine wp_if_lt 18 dX7_areDigits_1 rfl (fun q => ?_) (fun q => ?_)
  · replace k := k.1 q
    refine wp_iconst dX7_areDigits_18 ⟨by decide, by decide⟩ ?_
    exact wp_zreturn dX7_areDigits_19 rfl (by decide) (by decide) k
  · replace k := k.2 q
    refine wp_iload_n 2 dX7_areDigits_4 rfl ?_
    refine wp_if_lt 18 dX7_areDigits_5 rfl (fun q => ?_) (fun q => ?_)
    · replace k := k.1 q
      refine wp_iconst dX7_areDigits_18 ⟨by decide, by decide⟩ ?_
      exact wp_zreturn dX7_areDigits_19 rfl (by decide) (by decide) k
    · replace k := k.2 q
      refine wp_iload_n 2 dX7_areDigits_8 rfl ?_
      refine wp_aload_n 0 dX7_areDigits_9 rfl ?_
      have c1 := k.1
      replace k := k.2
      refine wp_getI (ci := 5) (j := 1) rfl (by decide) gX7_21 dX7_areDigits_10 c1 rfl (fun q => ?_)
      have f2 := q
      replace k := k q
      refine wp_iload_n 1 dX7_areDigits_13 rfl ?_
      have c3 := k.1
      replace k := k.2
      refine wp_isub dX7_areDigits_14 c3 ?_
      refine wp_icmp_le 20 dX7_areDigits_15 rfl (fun q => ?_) (fun q => ?_)
      · replace k := k.1 q
        refine wp_iload_n 1 dX7_areDigits_20 rfl ?_
        refine wp_istore_n [1, 2, 3, 0] (ls' := [(0, jR a0), (1, jI a1), (2, jI a2), (3, jI a1)]) dX7_areDigits_21 (by decide) rfl ?_
        exact k
      · replace k := k.2 q
        refine wp_iconst dX7_areDigits_18 ⟨by decide, by decide⟩ ?_
        exact wp_zreturn dX7_areDigits_19 rfl (by decide) (by decide) k
theorem bX7_areDigits_22 {d : Nat} {h : jH} {Q : jO → jH → Prop} {a0 : Nat} {a1 : Int} {a2 : Int} {a3 : Int} (k : jOK h → j32 a1 → j32 a2 → j32 a3 → j32 (a1 + a2) ∧ (((a1 + a2) ≤ a3 → Q (.inl (some (jI 1))) h) ∧ (¬ ((a1 + a2) ≤ a3) → hK h a0 = 6 ∧ hK h (hR h 500 a0) = 10 ∧ 0 ≤ a3 ∧ a3 < hN h (hR h 500 a0) ∧ (j32 (hA h (hR h 500 a0) a3) → (((hA h (hR h 500 a0) a3) < 48 → Q (.inl (some (jI 0))) h) ∧ (¬ ((hA h (hR h 500 a0) a3) < 48) → (((hA h (hR h 500 a0) a3) ≤ 57 → j32 (a3 + 1) ∧ jWp d mX7_areDigits 22 [(0, jR a0), (1, jI a1), (2, jI a2), (3, jI (a3 + 1))] [] h Q) ∧ (¬ ((hA h (hR h 500 a0) a3) ≤ 57) → Q (.inl (some (jI 0))) h)))))))) : jWp d mX7_areDigits 22 [(0, jR a0), (1, jI a1), (2, jI a2), (3, jI a3)] [] h Q := by
  refine jw_ok (fun ok q => ?_)
  replace k := k ok (q _ (.tail _ (.head _))) (q _ (.tail _ (.tail _ (.head _)))) (q _ (.tail _ (.tail _ (.tail _ (.head _)))))
  refine wp_iload_n 3 dX7_areDigits_22 rfl ?_
  refine wp_iload_n 1 dX7_areDigits_23 rfl ?_
  refine wp_iload_n 2 dX7_areDigits_24 rfl ?_
  have c1 := k.1
  replace k := k.2
  refine wp_iadd dX7_areDigits_25 c1 ?_
  refine wp_icmp_ge 59 dX7_areDigits_26 rfl (fun q => ?_) (fun q => ?_)
  · replace k := k.1 q
    refine wp_iconst dX7_areDigits_59 ⟨by decide, by decide⟩ ?_
    exact wp_zreturn dX7_areDigits_60 rfl (by decide) (by decide) k
  · replace k := k.2 q
    refine wp_aload_n 0 dX7_areDigits_29 rfl ?_
    have c2 := k.1
    replace k := k.2
    refine wp_getR (ci := 5) (j := 0) rfl (by decide) gX7_15 dX7_areDigits_30 c2 rfl ?_
    refine wp_iload_n 3 dX7_areDigits_33 rfl ?_
    have c3 := k.1
    replace k := k.2
    have c4 := k.1
    replace k := k.2
    have c5 := k.1
    replace k := k.2
    refine wp_iaload dX7_areDigits_34 c3 c4 c5 (fun q => ?_)
    have f6 := q
    replace k := k q
    refine wp_bipush dX7_areDigits_35 ⟨by decide, by decide⟩ ?_
    refine wp_icmp_lt 51 dX7_areDigits_37 rfl (fun q => ?_) (fun q => ?_)
    · replace k := k.1 q
      refine wp_iconst dX7_areDigits_51 ⟨by decide, by decide⟩ ?_
      exact wp_zreturn dX7_areDigits_52 rfl (by decide) (by decide) k
    · replace k := k.2 q
      refine wp_aload_n 0 dX7_areDigits_40 rfl ?_
      refine wp_getR (ci := 5) (j := 0) rfl (by decide) gX7_15 dX7_areDigits_41 c2 rfl ?_
      refine wp_iload_n 3 dX7_areDigits_44 rfl ?_
      refine wp_iaload dX7_areDigits_45 c3 c4 c5 (fun q => ?_)
      refine wp_bipush dX7_areDigits_46 ⟨by decide, by decide⟩ ?_
      refine wp_icmp_le 53 dX7_areDigits_48 rfl (fun q => ?_) (fun q => ?_)
      · replace k := k.1 q
        have c7 := k.1
        replace k := k.2
        refine wp_iinc 3 [1, 2, 3, 0] (ls' := [(0, jR a0), (1, jI a1), (2, jI a2), (3, jI (a3 + 1))]) dX7_areDigits_53 rfl c7 ⟨by decide, by decide⟩ (by decide) rfl ?_
        refine wp_goto 22 dX7_areDigits_56 rfl ?_
        exact k
      · replace k := k.2 q
        refine wp_iconst dX7_areDigits_51 ⟨by decide, by decide⟩ ?_
        exact wp_zreturn dX7_areDigits_52 rfl (by decide) (by decide) k
theorem bX7_digitsAt {d : Nat} {h : jH} {Q : jO → jH → Prop} {a0 : Nat} {a1 : Int} {a2 : Int} (k : jOK h → j32 a1 → j32 a2 → hK h a0 = 6 ∧ jCall d mX7_areDigits [jR a0, jI a1, jI a2] h (fun o h3 => ∃ v3, o = .inl (some (jI v3)) ∧ ((v3 ≠ 0 → jWp (d + 1) mX7_digitsAt 18 [(0, jR a0), (1, jI a1), (2, jI a2), (3, jL 0), (5, jI a1)] [] h3 Q) ∧ (v3 = 0 → Q (.inl (some (jL (-1)))) h3)))) : jCall (d + 1) mX7_digitsAt [jR a0, jI a1, jI a2] h Q := by
  refine jCall_of plX7 (Nat.le_of_ble_eq_true rfl) ?_
  show jWp (d + 1) mX7_digitsAt 0 [(0, jR a0), (1, jI a1), (2, jI a2)] [] h Q
  refine jw_ok (fun ok q => ?_)
  replace k := k ok (q _ (.tail _ (.head _))) (q _ (.tail _ (.tail _ (.head _))))
  refine wp_aload_n 0 dX7_digitsAt_0 rfl ?_
  refine wp_iload_n 1 dX7_digitsAt_1 rfl ?_
  refine wp_iload_n 2 dX7_digitsAt_2 rfl ?_
  have c1 := k.1
  replace k := k.2
  refine wp_callV (ci := 5) (y' := mX7_areDigits) (st := []) [jI a1, jI a2] rfl rfl rfl fX7_areDigits kX7_38 nX7_areDigits dX7_digitsAt_3 (Nat.le_of_ble_eq_true rfl) c1 ?_
  refine jCall.mono k (fun o h3 k => ?_)
  obtain ⟨v3, e, k⟩ := k
  subst e
  show jWp (d + 1) mX7_digitsAt 6 [(0, jR a0), (1, jI a1), (2, jI a2)] [jI v3] h3 Q
  refine wp_if_ne 13 dX7_digitsAt_6 rfl (fun q => ?_) (fun q => ?_)
  · replace k := k.1 q
    refine wp_lconst (z := 0) dX7_digitsAt_13 rfl ?_
    refine wp_lstore_n [1, 2, 3, 0] (ls' := [(0, jR a0), (1, jI a1), (2, jI a2), (3, jL 0)]) dX7_digitsAt_14 (by decide) rfl ?_
    refine wp_iload_n 1 dX7_digitsAt_15 rfl ?_
    refine wp_istore [1, 2, 3, 4, 0] (ls' := [(0, jR a0), (1, jI a1), (2, jI a2), (3, jL 0), (5, jI a1)]) dX7_digitsAt_16 (by decide) rfl ?_
    exact k
  · replace k := k.2 q
    refine wp_ldc2 dX7_digitsAt_9 eX7_42 rfl ⟨by decide, by decide⟩ ?_
    exact wp_lret dX7_digitsAt_12 rfl k
theorem bX7_digitsAt_18 {d : Nat} {h : jH} {Q : jO → jH → Prop} {a0 : Nat} {a1 : Int} {a2 : Int} {a3 : Int} {a5 : Int} (k : jOK h → j32 a1 → j32 a2 → j64 a3 → j32 a5 → j32 (a1 + a2) ∧ (((a1 + a2) ≤ a5 → Q (.inl (some (jL a3))) h) ∧ (¬ ((a1 + a2) ≤ a5) → j64 (a3 * 10) ∧ hK h a0 = 6 ∧ hK h (hR h 500 a0) = 10 ∧ 0 ≤ a5 ∧ a5 < hN h (hR h 500 a0) ∧ (j32 (hA h (hR h 500 a0) a5) → j32 ((hA h (hR h 500 a0) a5) - 48) ∧ j64 ((a3 * 10) + ((hA h (hR h 500 a0) a5) - 48)) ∧ j32 (a5 + 1) ∧ jWp (d + 1) mX7_digitsAt 18 [(0, jR a0), (1, jI a1), (2, jI a2), (3, jL ((a3 * 10) + ((hA h (hR h 500 a0) a5) - 48))), (5, jI (a5 + 1))] [] h Q)))) : jWp (d + 1) mX7_digitsAt 18 [(0, jR a0), (1, jI a1), (2, jI a2), (3, jL a3), (5, jI a5)] [] h Q := by
  refine jw_ok (fun ok q => ?_)
  replace k := k ok (q _ (.tail _ (.head _))) (q _ (.tail _ (.tail _ (.head _)))) (q _ (.tail _ (.tail _ (.tail _ (.head _))))) (q _ (.tail _ (.tail _ (.tail _ (.tail _ (.head _))))))
  refine wp_iload 4 dX7_digitsAt_18 rfl ?_
  refine wp_iload_n 1 dX7_digitsAt_20 rfl ?_
  refine wp_iload_n 2 dX7_digitsAt_21 rfl ?_
  have c1 := k.1
  replace k := k.2
  refine wp_iadd dX7_digitsAt_22 c1 ?_
  refine wp_icmp_ge 50 dX7_digitsAt_23 rfl (fun q => ?_) (fun q => ?_)
  · replace k := k.1 q
    refine wp_lload_n 3 dX7_digitsAt_50 rfl ?_
    exact wp_lret dX7_digitsAt_51 rfl k
  · replace k := k.2 q
    refine wp_lload_n 3 dX7_digitsAt_26 rfl ?_
    refine wp_ldc2 dX7_digitsAt_27 eX7_44 rfl ⟨by decide, by decide⟩ ?_
    have c2 := k.1
    replace k := k.2
    refine wp_lmul dX7_digitsAt_30 c2 ?_
    refine wp_aload_n 0 dX7_digitsAt_31 rfl ?_
    have c3 := k.1
    replace k := k.2
    refine wp_getR (ci := 5) (j := 0) rfl (by decide) gX7_15 dX7_digitsAt_32 c3 rfl ?_
    refine wp_iload 4 dX7_digitsAt_35 rfl ?_
    have c4 := k.1
    replace k := k.2
    have c5 := k.1
    replace k := k.2
    have c6 := k.1
    replace k := k.2
    refine wp_iaload dX7_digitsAt_37 c4 c5 c6 (fun q => ?_)
    have f7 := q
    replace k := k q
    refine wp_bipush dX7_digitsAt_38 ⟨by decide, by decide⟩ ?_
    have c8 := k.1
    replace k := k.2
    refine wp_isub dX7_digitsAt_40 c8 ?_
    refine wp_i2l dX7_digitsAt_41 ?_
    have c9 := k.1
    replace k := k.2
    refine wp_ladd dX7_digitsAt_42 c9 ?_
    refine wp_lstore_n [1, 2, 3, 0, 4] (ls' := [(0, jR a0), (1, jI a1), (2, jI a2), (3, jL ((a3 * 10) + ((hA h (hR h 500 a0) a5) - 48))), (5, jI a5)]) dX7_digitsAt_43 (by decide) rfl ?_
    have c10 := k.1
    replace k := k.2
    refine wp_iinc 4 [1, 2, 3, 4, 0] (ls' := [(0, jR a0), (1, jI a1), (2, jI a2), (3, jL ((a3 * 10) + ((hA h (hR h 500 a0) a5) - 48))), (5, jI (a5 + 1))]) dX7_digitsAt_44 rfl c10 ⟨by decide, by decide⟩ (by decide) rfl ?_
    refine wp_goto 18 dX7_digitsAt_47 rfl ?_
    exact k
theorem bX7_twoDigits {d : Nat} {h : jH} {Q : jO → jH → Prop} {a0 : Nat} {a1 : Int} (k : jOK h → j32 a1 → hK h a0 = 6 ∧ jCall d mX7_areDigits [jR a0, jI a1, jI 2] h (fun o h3 => ∃ v3, o = .inl (some (jI v3)) ∧ ((v3 = 0 → Q (.inl (some (jI (-1)))) h3) ∧ (¬ (v3 = 0) → hK h3 a0 = 6 ∧ hK h3 (hR h3 500 a0) = 10 ∧ 0 ≤ a1 ∧ a1 < hN h3 (hR h3 500 a0) ∧ (j32 (hA h3 (hR h3 500 a0) a1) → j32 ((hA h3 (hR h3 500 a0) a1) - 48) ∧ j32 (((hA h3 (hR h3 500 a0) a1) - 48) * 10) ∧ j32 (a1 + 1) ∧ 0 ≤ (a1 + 1) ∧ (a1 + 1) < hN h3 (hR h3 500 a0) ∧ (j32 (hA h3 (hR h3 500 a0) (a1 + 1)) → j32 ((((hA h3 (hR h3 500 a0) a1) - 48) * 10) + (hA h3 (hR h3 500 a0) (a1 + 1))) ∧ j32 (((((hA h3 (hR h3 500 a0) a1) - 48) * 10) + (hA h3 (hR h3 500 a0) (a1 + 1))) - 48) ∧ Q (.inl (some (jI (((((hA h3 (hR h3 500 a0) a1) - 48) * 10) + (hA h3 (hR h3 500 a0) (a1 + 1))) - 48)))) h3)))))) : jCall (d + 1) mX7_twoDigits [jR a0, jI a1] h Q := by
  refine jCall_of plX7 (Nat.le_of_ble_eq_true rfl) ?_
  show jWp (d + 1) mX7_twoDigits 0 [(0, jR a0), (1, jI a1)] [] h Q
  refine jw_ok (fun ok q => ?_)
  replace k := k ok (q _ (.tail _ (.head _)))
  refine wp_aload_n 0 dX7_twoDigits_0 rfl ?_
  refine wp_iload_n 1 dX7_twoDigits_1 rfl ?_
  refine wp_iconst dX7_twoDigits_2 ⟨by decide, by decide⟩ ?_
  have c1 := k.1
  replace k := k.2
  refine wp_callV (ci := 5) (y' := mX7_areDigits) (st := []) [jI a1, jI 2] rfl rfl rfl fX7_areDigits kX7_38 nX7_areDigits dX7_twoDigits_3 (Nat.le_of_ble_eq_true rfl) c1 ?_
  refine jCall.mono k (fun o h3 k => ?_)
  obtain ⟨v3, e, k⟩ := k
  subst e
  show jWp (d + 1) mX7_twoDigits 6 [(0, jR a0), (1, jI a1)] [jI v3] h3 Q
  refine wp_if_eq 36 dX7_twoDigits_6 rfl (fun q => ?_) (fun q => ?_)
  · replace k := k.1 q
    refine wp_iconst dX7_twoDigits_36 ⟨by decide, by decide⟩ ?_
    exact wp_iret dX7_twoDigits_37 rfl k
  · replace k := k.2 q
    refine wp_aload_n 0 dX7_twoDigits_9 rfl ?_
    have c2 := k.1
    replace k := k.2
    refine wp_getR (ci := 5) (j := 0) rfl (by decide) gX7_15 dX7_twoDigits_10 c2 rfl ?_
    refine wp_iload_n 1 dX7_twoDigits_13 rfl ?_
    have c3 := k.1
    replace k := k.2
    have c4 := k.1
    replace k := k.2
    have c5 := k.1
    replace k := k.2
    refine wp_iaload dX7_twoDigits_14 c3 c4 c5 (fun q => ?_)
    have f6 := q
    replace k := k q
    refine wp_bipush dX7_twoDigits_15 ⟨by decide, by decide⟩ ?_
    have c7 := k.1
    replace k := k.2
    refine wp_isub dX7_twoDigits_17 c7 ?_
    refine wp_bipush dX7_twoDigits_18 ⟨by decide, by decide⟩ ?_
    have c8 := k.1
    replace k := k.2
    refine wp_imul dX7_twoDigits_20 c8 ?_
    refine wp_aload_n 0 dX7_twoDigits_21 rfl ?_
    refine wp_getR (ci := 5) (j := 0) rfl (by decide) gX7_15 dX7_twoDigits_22 c2 rfl ?_
    refine wp_iload_n 1 dX7_twoDigits_25 rfl ?_
    refine wp_iconst dX7_twoDigits_26 ⟨by decide, by decide⟩ ?_
    have c9 := k.1
    replace k := k.2
    refine wp_iadd dX7_twoDigits_27 c9 ?_
    have c10 := k.1
    replace k := k.2
    have c11 := k.1
    replace k := k.2
    refine wp_iaload dX7_twoDigits_28 c3 c10 c11 (fun q => ?_)
    have f12 := q
    replace k := k q
    have c13 := k.1
    replace k := k.2
    refine wp_iadd dX7_twoDigits_29 c13 ?_
    refine wp_bipush dX7_twoDigits_30 ⟨by decide, by decide⟩ ?_
    have c14 := k.1
    replace k := k.2
    refine wp_isub dX7_twoDigits_32 c14 ?_
    refine wp_goto 37 dX7_twoDigits_33 rfl ?_
    exact wp_iret dX7_twoDigits_37 rfl k
theorem bX7_checkDigit {d : Nat} {h : jH} {Q : jO → jH → Prop} {a0 : Nat} {a1 : Int} {a2 : Int} (k : jOK h → j32 a1 → j32 a2 → hK h a0 = 6 ∧ jCall d mX7_areDigits [jR a0, jI a1, jI a2] h (fun o h3 => ∃ v3, o = .inl (some (jI v3)) ∧ ((v3 ≠ 0 → j32 (a1 + a2) ∧ j32 ((a1 + a2) - 1) ∧ jWp (d + 1) mX7_checkDigit 23 [(0, jR a0), (1, jI a1), (3, jI 0), (4, jI 3), (5, jI ((a1 + a2) - 1))] [] h3 Q) ∧ (v3 = 0 → Q (.inl (some (jI (-1)))) h3)))) : jCall (d + 1) mX7_checkDigit [jR a0, jI a1, jI a2] h Q := by
  refine jCall_of plX7 (Nat.le_of_ble_eq_true rfl) ?_
  show jWp (d + 1) mX7_checkDigit 0 [(0, jR a0), (1, jI a1), (2, jI a2)] [] h Q
  refine jw_ok (fun ok q => ?_)
  replace k := k ok (q _ (.tail _ (.head _))) (q _ (.tail _ (.tail _ (.head _))))
  refine wp_aload_n 0 dX7_checkDigit_0 rfl ?_
  refine wp_iload_n 1 dX7_checkDigit_1 rfl ?_
  refine wp_iload_n 2 dX7_checkDigit_2 rfl ?_
  have c1 := k.1
  replace k := k.2
  refine wp_callV (ci := 5) (y' := mX7_areDigits) (st := []) [jI a1, jI a2] rfl rfl rfl fX7_areDigits kX7_38 nX7_areDigits dX7_checkDigit_3 (Nat.le_of_ble_eq_true rfl) c1 ?_
  refine jCall.mono k (fun o h3 k => ?_)
  obtain ⟨v3, e, k⟩ := k
  subst e
  show jWp (d + 1) mX7_checkDigit 6 [(0, jR a0), (1, jI a1), (2, jI a2)] [jI v3] h3 Q
  refine wp_if_ne 11 dX7_checkDigit_6 rfl (fun q => ?_) (fun q => ?_)
  · replace k := k.1 q
    refine wp_iconst dX7_checkDigit_11 ⟨by decide, by decide⟩ ?_
    refine wp_istore_n [1, 2, 3, 0] (ls' := [(0, jR a0), (1, jI a1), (2, jI a2), (3, jI 0)]) dX7_checkDigit_12 (by decide) rfl ?_
    refine wp_iconst dX7_checkDigit_13 ⟨by decide, by decide⟩ ?_
    refine wp_istore [1, 2, 3, 4, 0] (ls' := [(0, jR a0), (1, jI a1), (2, jI a2), (3, jI 0), (4, jI 3)]) dX7_checkDigit_14 (by decide) rfl ?_
    refine wp_iload_n 1 dX7_checkDigit_16 rfl ?_
    refine wp_iload_n 2 dX7_checkDigit_17 rfl ?_
    have c2 := k.1
    replace k := k.2
    refine wp_iadd dX7_checkDigit_18 c2 ?_
    refine wp_iconst dX7_checkDigit_19 ⟨by decide, by decide⟩ ?_
    have c3 := k.1
    replace k := k.2
    refine wp_isub dX7_checkDigit_20 c3 ?_
    refine wp_istore [1, 2, 4, 5, 0] (ls' := [(0, jR a0), (1, jI a1), (3, jI 0), (4, jI 3), (5, jI ((a1 + a2) - 1))]) dX7_checkDigit_21 (by decide) rfl ?_
    exact k
  · replace k := k.2 q
    refine wp_iconst dX7_checkDigit_9 ⟨by decide, by decide⟩ ?_
    exact wp_iret dX7_checkDigit_10 rfl k
theorem bX7_checkDigit_23 {d : Nat} {h : jH} {Q : jO → jH → Prop} {a0 : Nat} {a1 : Int} {a3 : Int} {a4 : Int} {a5 : Int} (k : jOK h → j32 a1 → j32 a3 → j32 a4 → j32 a5 → ((a5 < a1 → 0 ≤ a3 ∧ j32 (10 - (a3 % 10)) ∧ 0 ≤ (10 - (a3 % 10)) ∧ Q (.inl (some (jI ((10 - (a3 % 10)) % 10)))) h) ∧ (¬ (a5 < a1) → hK h a0 = 6 ∧ hK h (hR h 500 a0) = 10 ∧ 0 ≤ a5 ∧ a5 < hN h (hR h 500 a0) ∧ (j32 (hA h (hR h 500 a0) a5) → j32 ((hA h (hR h 500 a0) a5) - 48) ∧ j32 (((hA h (hR h 500 a0) a5) - 48) * a4) ∧ j32 (a3 + (((hA h (hR h 500 a0) a5) - 48) * a4)) ∧ j32 (4 - a4) ∧ j32 (a5 + (-1)) ∧ jWp (d + 1) mX7_checkDigit 23 [(0, jR a0), (1, jI a1), (3, jI (a3 + (((hA h (hR h 500 a0) a5) - 48) * a4))), (4, jI (4 - a4)), (5, jI (a5 + (-1)))] [] h Q)))) : jWp (d + 1) mX7_checkDigit 23 [(0, jR a0), (1, jI a1), (3, jI a3), (4, jI a4), (5, jI a5)] [] h Q := by
  refine jw_ok (fun ok q => ?_)
  replace k := k ok (q _ (.tail _ (.head _))) (q _ (.tail _ (.tail _ (.head _)))) (q _ (.tail _ (.tail _ (.tail _ (.head _))))) (q _ (.tail _ (.tail _ (.tail _ (.tail _ (.head _))))))
  refine wp_iload 4 dX7_checkDigit_23 rfl ?_
  refine wp_iload_n 1 dX7_checkDigit_25 rfl ?_
  refine wp_icmp_lt 57 dX7_checkDigit_26 rfl (fun q => ?_) (fun q => ?_)
  · replace k := k.1 q
    refine wp_bipush dX7_checkDigit_57 ⟨by decide, by decide⟩ ?_
    refine wp_iload_n 2 dX7_checkDigit_59 rfl ?_
    refine wp_bipush dX7_checkDigit_60 ⟨by decide, by decide⟩ ?_
    have c1 := k.1
    replace k := k.2
    refine wp_irem dX7_checkDigit_62 c1 (by decide) ?_
    have c2 := k.1
    replace k := k.2
    refine wp_isub dX7_checkDigit_63 c2 ?_
    refine wp_bipush dX7_checkDigit_64 ⟨by decide, by decide⟩ ?_
    have c3 := k.1
    replace k := k.2
    refine wp_irem dX7_checkDigit_66 c3 (by decide) ?_
    exact wp_iret dX7_checkDigit_67 rfl k
  · replace k := k.2 q
    refine wp_iload_n 2 dX7_checkDigit_29 rfl ?_
    refine wp_aload_n 0 dX7_checkDigit_30 rfl ?_
    have c4 := k.1
    replace k := k.2
    refine wp_getR (ci := 5) (j := 0) rfl (by decide) gX7_15 dX7_checkDigit_31 c4 rfl ?_
    refine wp_iload 4 dX7_checkDigit_34 rfl ?_
    have c5 := k.1
    replace k := k.2
    have c6 := k.1
    replace k := k.2
    have c7 := k.1
    replace k := k.2
    refine wp_iaload dX7_checkDigit_36 c5 c6 c7 (fun q => ?_)
    have f8 := q
    replace k := k q
    refine wp_bipush dX7_checkDigit_37 ⟨by decide, by decide⟩ ?_
    have c9 := k.1
    replace k := k.2
    refine wp_isub dX7_checkDigit_39 c9 ?_
    refine wp_iload 3 dX7_checkDigit_40 rfl ?_
    have c10 := k.1
    replace k := k.2
    refine wp_imul dX7_checkDigit_42 c10 ?_
    have c11 := k.1
    replace k := k.2
    refine wp_iadd dX7_checkDigit_43 c11 ?_
    refine wp_istore_n [1, 2, 0, 3, 4] (ls' := [(0, jR a0), (1, jI a1), (3, jI (a3 + (((hA h (hR h 500 a0) a5) - 48) * a4))), (4, jI a4), (5, jI a5)]) dX7_checkDigit_44 (by decide) rfl ?_
    refine wp_iconst dX7_checkDigit_45 ⟨by decide, by decide⟩ ?_
    refine wp_iload 3 dX7_checkDigit_46 rfl ?_
    have c12 := k.1
    replace k := k.2
    refine wp_isub dX7_checkDigit_48 c12 ?_
    refine wp_istore [1, 2, 3, 0, 4] (ls' := [(0, jR a0), (1, jI a1), (3, jI (a3 + (((hA h (hR h 500 a0) a5) - 48) * a4))), (4, jI (4 - a4)), (5, jI a5)]) dX7_checkDigit_49 (by decide) rfl ?_
    have c13 := k.1
    replace k := k.2
    refine wp_iinc 4 [1, 2, 3, 4, 0] (ls' := [(0, jR a0), (1, jI a1), (3, jI (a3 + (((hA h (hR h 500 a0) a5) - 48) * a4))), (4, jI (4 - a4)), (5, jI (a5 + (-1)))]) dX7_checkDigit_51 rfl c13 ⟨by decide, by decide⟩ (by decide) rfl ?_
    refine wp_goto 23 dX7_checkDigit_54 rfl ?_
    exact k
