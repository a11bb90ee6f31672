/-! BLOCKS (made by wip/whole/gen/genblk.py) -/
theorem wp_b0ret {d : Nat} {y : jM} {pc : Nat} {ls : List (Nat × jV)} {h : jH} {Q : jO → jH → Prop} (hd : decode y.2.1 pc = .ok (.ireturn, 1)) (hr : y.2.2.2.1 = some .byte) (hq : Q (.inl (some (jI 0))) h) : jWp d y pc ls [jI 0] h Q := by
  refine jend (v := some (jI 0)) (show j32 0 from ⟨by decide, by decide⟩) rfl hq (fun p l e R s m args below meth c G H locs cells slots lsl Qc C hQ hf => ?_)
  obtain ⟨c1, c2, c3, c4, c5, -⟩ := C
  exact W.zret (v := Int32.ofInt 0) (ty := .byte) c1 c2 (c4.trans hr) (by decide) hQ hf hd c5
theorem bJ0_coder_7d493 {d : Nat} {h : jH} {Q : jO → jH → Prop}  (k : jOK h → Q (.inl (some (jI 0))) h) : jCall d mJ0_coder_7d493 [jR 5] h Q := by
  refine jCall_ofF plJ0_coder_7d493 rfl (Nat.le_of_ble_eq_true rfl) ?_
  show jWp d mJ0_coder_7d493 0 [(0, jR 5)] [] h Q
  refine jw_ok (fun ok q => ?_)
  replace k := k ok 
  refine wp_compact gJ0_38 dJ0_coder_7d493_0 ?_
  refine wp_if_eq 13 dJ0_coder_7d493_3 rfl (fun q => absurd q (by decide)) (fun q => ?_)
  refine wp_aload_n 0 dJ0_coder_7d493_6 rfl ?_
  refine wp_strcod gJ0_15 dJ0_coder_7d493_7 ?_
  refine wp_goto 14 dJ0_coder_7d493_10 rfl ?_
  exact wp_b0ret dJ0_coder_7d493_14 rfl k
theorem bJ0_length_8abf5 {d : Nat} {h : jH} {Q : jO → jH → Prop}  (k : jOK h → jCall d mJ0_coder_7d493 [jR 5] h (fun o h6 => ∃ v6, o = .inl (some (jI v6)) ∧ 0 ≤ v6 ∧ v6 < 32 ∧ Q (.inl (some (jI (20 / 2 ^ (v6).toNat)))) h6)) : jCall (d + 1) mJ0_length_8abf5 [jR 5] h Q := by
  refine jCall_ofF plJ0_length_8abf5 rfl (Nat.le_of_ble_eq_true rfl) ?_
  show jWp (d + 1) mJ0_length_8abf5 0 [(0, jR 5)] [] h Q
  refine jw_ok (fun ok q => ?_)
  replace k := k ok 
  refine wp_aload_n 0 dJ0_length_8abf5_0 rfl ?_
  refine wp_strval gJ0_9 dJ0_length_8abf5_1 ?_
  refine wp_strlen dJ0_length_8abf5_4 ?_
  refine wp_aload_n 0 dJ0_length_8abf5_5 rfl ?_
  refine wp_callT (y' := mJ0_coder_7d493) (st := [jI 20]) [] rfl rfl fJ0_coder_7d493 kJ0_335 nJ0_coder_7d493 dJ0_length_8abf5_6 (Nat.le_of_ble_eq_true rfl) ?_
  refine jCall.mono k (fun o h6 k => ?_)
  obtain ⟨v6, e, k⟩ := k
  subst e
  show jWp (d + 1) mJ0_length_8abf5 9 [(0, jR 5)] [jI v6, jI 20] h6 Q
  have c1 := k.1
  replace k := k.2
  have c2 := k.1
  replace k := k.2
  refine wp_ishr dJ0_length_8abf5_9 c1 c2 ?_
  exact wp_iret dJ0_length_8abf5_10 rfl k
theorem bJ0_isLatin1_aae02 {d : Nat} {h : jH} {Q : jO → jH → Prop}  (k : jOK h → Q (.inl (some (jI 1))) h) : jCall d mJ0_isLatin1_aae02 [jR 5] h Q := by
  refine jCall_ofF plJ0_isLatin1_aae02 rfl (Nat.le_of_ble_eq_true rfl) ?_
  show jWp d mJ0_isLatin1_aae02 0 [(0, jR 5)] [] h Q
  refine jw_ok (fun ok q => ?_)
  replace k := k ok 
  refine wp_compact gJ0_38 dJ0_isLatin1_aae02_0 ?_
  refine wp_if_eq 17 dJ0_isLatin1_aae02_3 rfl (fun q => absurd q (by decide)) (fun q => ?_)
  refine wp_aload_n 0 dJ0_isLatin1_aae02_6 rfl ?_
  refine wp_strcod gJ0_15 dJ0_isLatin1_aae02_7 ?_
  refine wp_if_ne 17 dJ0_isLatin1_aae02_10 rfl (fun q => absurd q (by decide)) (fun q => ?_)
  refine wp_iconst dJ0_isLatin1_aae02_13 ⟨by decide, by decide⟩ ?_
  refine wp_goto 18 dJ0_isLatin1_aae02_14 rfl ?_
  exact wp_zreturn dJ0_isLatin1_aae02_18 rfl (by decide) (by decide) k
theorem bJ1_canEncode_9a6ad {d : Nat} {h : jH} {Q : jO → jH → Prop} {a0 : Int} (k : jOK h → j32 a0 → ((a0 < 0 → Q (.inl (some (jI 0))) h) ∧ (¬ (a0 < 0) → ((255 < a0 → Q (.inl (some (jI 0))) h) ∧ (¬ (255 < a0) → Q (.inl (some (jI 1))) h))))) : jCall d mJ1_canEncode_9a6ad [jI a0] h Q := by
  refine jCall_ofF plJ1_canEncode_9a6ad rfl (Nat.le_of_ble_eq_true rfl) ?_
  show jWp d mJ1_canEncode_9a6ad 0 [(0, jI a0)] [] h Q
  refine jw_ok (fun ok q => ?_)
  replace k := k ok (q _ (.head _))
  refine wp_iload_n 0 dJ1_canEncode_9a6ad_0 rfl ?_
  refine wp_if_lt 15 dJ1_canEncode_9a6ad_1 rfl (fun q => ?_) (fun q => ?_)
  · replace k := k.1 q
    refine wp_iconst dJ1_canEncode_9a6ad_15 ⟨by decide, by decide⟩ ?_
    exact wp_zreturn dJ1_canEncode_9a6ad_16 rfl (by decide) (by decide) k
  · replace k := k.2 q
    refine wp_iload_n 0 dJ1_canEncode_9a6ad_4 rfl ?_
    refine wp_sipush dJ1_canEncode_9a6ad_5 ⟨by decide, by decide⟩ ?_
    refine wp_icmp_gt 15 dJ1_canEncode_9a6ad_8 rfl (fun q => ?_) (fun q => ?_)
    · replace k := k.1 q
      refine wp_iconst dJ1_canEncode_9a6ad_15 ⟨by decide, by decide⟩ ?_
      exact wp_zreturn dJ1_canEncode_9a6ad_16 rfl (by decide) (by decide) k
    · replace k := k.2 q
      refine wp_iconst dJ1_canEncode_9a6ad_11 ⟨by decide, by decide⟩ ?_
      refine wp_goto 16 dJ1_canEncode_9a6ad_12 rfl ?_
      exact wp_zreturn dJ1_canEncode_9a6ad_16 rfl (by decide) (by decide) k
theorem bJ1_indexOfChar_4cfef {d : Nat} {h : jH} {Q : jO → jH → Prop} {a1 : Int} {a2 : Int} {a3 : Int} (k : jOK h → j32 a1 → j32 a2 → j32 a3 → jWp d mJ1_indexOfChar_4cfef 7 [(0, jR 6), (3, jI a3), (4, jI ((a1 + 128) % 256 - 128)), (5, jI a2)] [] h Q) : jCall d mJ1_indexOfChar_4cfef [jR 6, jI a1, jI a2, jI a3] h Q := by
  refine jCall_ofF plJ1_indexOfChar_4cfef rfl (Nat.le_of_ble_eq_true rfl) ?_
  show jWp d mJ1_indexOfChar_4cfef 0 [(0, jR 6), (1, jI a1), (2, jI a2), (3, jI a3)] [] h Q
  refine jw_ok (fun ok q => ?_)
  replace k := k ok (q _ (.tail _ (.head _))) (q _ (.tail _ (.tail _ (.head _)))) (q _ (.tail _ (.tail _ (.tail _ (.head _)))))
  refine wp_iload_n 1 dJ1_indexOfChar_4cfef_0 rfl ?_
  refine wp_i2b dJ1_indexOfChar_4cfef_1 ?_
  refine wp_istore [1, 3, 4, 0] (ls' := [(0, jR 6), (2, jI a2), (3, jI a3), (4, jI ((a1 + 128) % 256 - 128))]) dJ1_indexOfChar_4cfef_2 (by decide) rfl ?_
  refine wp_iload_n 1 dJ1_indexOfChar_4cfef_4 rfl ?_
  refine wp_istore [1, 3, 4, 0] (ls' := [(0, jR 6), (3, jI a3), (4, jI ((a1 + 128) % 256 - 128)), (5, jI a2)]) dJ1_indexOfChar_4cfef_5 (by decide) rfl ?_
  exact k
theorem bJ1_indexOfChar_4cfef_7 {d : Nat} {h : jH} {Q : jO → jH → Prop} {a3 : Int} {a4 : Int} {a5 : Int} (k : jOK h → j32 a3 → j32 a4 → j32 a5 → ((a3 ≤ a5 → Q (.inl (some (jI (-1)))) h) ∧ (¬ (a3 ≤ a5) → 0 ≤ a5 ∧ a5 < 20 ∧ (((jMKI.getD (a5).toNat 0) ≠ a4 → j32 (a5 + 1) ∧ jWp d mJ1_indexOfChar_4cfef 7 [(0, jR 6), (3, jI a3), (4, jI a4), (5, jI (a5 + 1))] [] h Q) ∧ ((jMKI.getD (a5).toNat 0) = a4 → Q (.inl (some (jI a5))) h))))) : jWp d mJ1_indexOfChar_4cfef 7 [(0, jR 6), (3, jI a3), (4, jI a4), (5, jI a5)] [] h Q := by
  refine jw_ok (fun ok q => ?_)
  replace k := k ok (q _ (.tail _ (.head _))) (q _ (.tail _ (.tail _ (.head _)))) (q _ (.tail _ (.tail _ (.tail _ (.head _)))))
  refine wp_iload 3 dJ1_indexOfChar_4cfef_7 rfl ?_
  refine wp_iload_n 1 dJ1_indexOfChar_4cfef_9 rfl ?_
  refine wp_icmp_ge 31 dJ1_indexOfChar_4cfef_10 rfl (fun q => ?_) (fun q => ?_)
  · replace k := k.1 q
    refine wp_iconst dJ1_indexOfChar_4cfef_31 ⟨by decide, by decide⟩ ?_
    exact wp_iret dJ1_indexOfChar_4cfef_32 rfl k
  · replace k := k.2 q
    refine wp_aload_n 0 dJ1_indexOfChar_4cfef_13 rfl ?_
    refine wp_iload 3 dJ1_indexOfChar_4cfef_14 rfl ?_
    have c1 := k.1
    replace k := k.2
    have c2 := k.1
    replace k := k.2
    refine wp_strbyte dJ1_indexOfChar_4cfef_16 c1 c2 ?_
    refine wp_iload 2 dJ1_indexOfChar_4cfef_17 rfl ?_
    refine wp_icmp_ne 25 dJ1_indexOfChar_4cfef_19 rfl (fun q => ?_) (fun q => ?_)
    · replace k := k.1 q
      have c3 := k.1
      replace k := k.2
      refine wp_iinc 3 [1, 2, 3, 0] (ls' := [(0, jR 6), (3, jI a3), (4, jI a4), (5, jI (a5 + 1))]) dJ1_indexOfChar_4cfef_25 rfl c3 ⟨by decide, by decide⟩ (by decide) rfl ?_
      refine wp_goto 7 dJ1_indexOfChar_4cfef_28 rfl ?_
      exact k
    · replace k := k.2 q
      refine wp_iload 3 dJ1_indexOfChar_4cfef_22 rfl ?_
      exact wp_iret dJ1_indexOfChar_4cfef_24 rfl k
theorem bJ1_indexOf_4cfef {d : Nat} {h : jH} {Q : jO → jH → Prop} {a1 : Int} {a2 : Int} {a3 : Int} (k : jOK h → j32 a1 → j32 a2 → j32 a3 → jCall d mJ1_canEncode_9a6ad [jI a1] h (fun o h1 => ∃ v1, o = .inl (some (jI v1)) ∧ ((v1 ≠ 0 → jCall d mJ9_max_7cf53 [jI a2, jI 0] h1 (fun o h11 => ∃ v11, o = .inl (some (jI v11)) ∧ jCall d mJ9_min_7cf53 [jI a3, jI 20] h11 (fun o h18 => ∃ v18, o = .inl (some (jI v18)) ∧ ((v11 < v18 → jCall d mJ1_indexOfChar_4cfef [jR 6, jI a1, jI v11, jI v18] h18 (fun o h33 => ∃ v33, o = .inl (some (jI v33)) ∧ Q (.inl (some (jI v33))) h33)) ∧ (¬ (v11 < v18) → Q (.inl (some (jI (-1)))) h18))))) ∧ (v1 = 0 → Q (.inl (some (jI (-1)))) h1)))) : jCall (d + 1) mJ1_indexOf_4cfef [jR 6, jI a1, jI a2, jI a3] h Q := by
  refine jCall_ofF plJ1_indexOf_4cfef rfl (Nat.le_of_ble_eq_true rfl) ?_
  show jWp (d + 1) mJ1_indexOf_4cfef 0 [(0, jR 6), (1, jI a1), (2, jI a2), (3, jI a3)] [] h Q
  refine jw_ok (fun ok q => ?_)
  replace k := k ok (q _ (.tail _ (.head _))) (q _ (.tail _ (.tail _ (.head _)))) (q _ (.tail _ (.tail _ (.tail _ (.head _)))))
  refine wp_iload_n 1 dJ1_indexOf_4cfef_0 rfl ?_
  refine wp_callS (y' := mJ1_canEncode_9a6ad) (st := []) [jI a1] rfl fJ1_canEncode_9a6ad kJ1_88 nJ1_canEncode_9a6ad dJ1_indexOf_4cfef_1 (Nat.le_of_ble_eq_true rfl) ?_
  refine jCall.mono k (fun o h1 k => ?_)
  obtain ⟨v1, e, k⟩ := k
  subst e
  show jWp (d + 1) mJ1_indexOf_4cfef 4 [(0, jR 6), (1, jI a1), (2, jI a2), (3, jI a3)] [jI v1] h1 Q
  refine wp_if_ne 9 dJ1_indexOf_4cfef_4 rfl (fun q => ?_) (fun q => ?_)
  · replace k := k.1 q
    refine wp_iload_n 2 dJ1_indexOf_4cfef_9 rfl ?_
    refine wp_iconst dJ1_indexOf_4cfef_10 ⟨by decide, by decide⟩ ?_
    refine wp_callS (y' := mJ9_max_7cf53) (st := []) [jI a2, jI 0] rfl fJ9_max_7cf53 kJ1_92 nJ9_max_7cf53 dJ1_indexOf_4cfef_11 (Nat.le_of_ble_eq_true rfl) ?_
    refine jCall.mono k (fun o h11 k => ?_)
    obtain ⟨v11, e, k⟩ := k
    subst e
    show jWp (d + 1) mJ1_indexOf_4cfef 14 [(0, jR 6), (1, jI a1), (2, jI a2), (3, jI a3)] [jI v11] h11 Q
    refine wp_istore_n [1, 2, 0, 3] (ls' := [(0, jR 6), (1, jI a1), (2, jI v11), (3, jI a3)]) dJ1_indexOf_4cfef_14 (by decide) rfl ?_
    refine wp_iload_n 3 dJ1_indexOf_4cfef_15 rfl ?_
    refine wp_aload_n 0 dJ1_indexOf_4cfef_16 rfl ?_
    refine wp_strlen dJ1_indexOf_4cfef_17 ?_
    refine wp_callS (y' := mJ9_min_7cf53) (st := []) [jI a3, jI 20] rfl fJ9_min_7cf53 kJ1_38 nJ9_min_7cf53 dJ1_indexOf_4cfef_18 (Nat.le_of_ble_eq_true rfl) ?_
    refine jCall.mono k (fun o h18 k => ?_)
    obtain ⟨v18, e, k⟩ := k
    subst e
    show jWp (d + 1) mJ1_indexOf_4cfef 21 [(0, jR 6), (1, jI a1), (2, jI v11), (3, jI a3)] [jI v18] h18 Q
    refine wp_istore_n [1, 2, 3, 0] (ls' := [(0, jR 6), (1, jI a1), (2, jI v11), (3, jI v18)]) dJ1_indexOf_4cfef_21 (by decide) rfl ?_
    refine wp_iload_n 2 dJ1_indexOf_4cfef_22 rfl ?_
    refine wp_iload_n 3 dJ1_indexOf_4cfef_23 rfl ?_
    refine wp_icmp_lt 29 dJ1_indexOf_4cfef_24 rfl (fun q => ?_) (fun q => ?_)
    · replace k := k.1 q
      refine wp_aload_n 0 dJ1_indexOf_4cfef_29 rfl ?_
      refine wp_iload_n 1 dJ1_indexOf_4cfef_30 rfl ?_
      refine wp_iload_n 2 dJ1_indexOf_4cfef_31 rfl ?_
      refine wp_iload_n 3 dJ1_indexOf_4cfef_32 rfl ?_
      refine wp_callS (y' := mJ1_indexOfChar_4cfef) (st := []) [jR 6, jI a1, jI v11, jI v18] rfl fJ1_indexOfChar_4cfef kJ1_95 nJ1_indexOfChar_4cfef dJ1_indexOf_4cfef_33 (Nat.le_of_ble_eq_true rfl) ?_
      refine jCall.mono k (fun o h33 k => ?_)
      obtain ⟨v33, e, k⟩ := k
      subst e
      show jWp (d + 1) mJ1_indexOf_4cfef 36 [(0, jR 6), (1, jI a1), (2, jI v11), (3, jI v18)] [jI v33] h33 Q
      exact wp_iret dJ1_indexOf_4cfef_36 rfl k
    · replace k := k.2 q
      refine wp_iconst dJ1_indexOf_4cfef_27 ⟨by decide, by decide⟩ ?_
      exact wp_iret dJ1_indexOf_4cfef_28 rfl k
  · replace k := k.2 q
    refine wp_iconst dJ1_indexOf_4cfef_7 ⟨by decide, by decide⟩ ?_
    exact wp_iret dJ1_indexOf_4cfef_8 rfl k
theorem bJ0_indexOf_7cf53 {d : Nat} {h : jH} {Q : jO → jH → Prop} {a1 : Int} {a2 : Int} (k : jOK h → j32 a1 → j32 a2 → jCall d mJ0_isLatin1_aae02 [jR 5] h (fun o h1 => ∃ v1, o = .inl (some (jI v1)) ∧ ((v1 = 0 → jCall d mJ0_length_8abf5 [jR 5] h1 (fun o h30 => ∃ v30, o = .inl (some (jI v30)) ∧ jCall d mJ2_indexOf_4cfef [jR 6, jI a1, jI a2, jI v30] h30 (fun o h33 => ∃ v33, o = .inl (some (jI v33)) ∧ Q (.inl (some (jI v33))) h33))) ∧ (¬ (v1 = 0) → jCall d mJ0_length_8abf5 [jR 5] h1 (fun o h14 => ∃ v14, o = .inl (some (jI v14)) ∧ jCall d mJ1_indexOf_4cfef [jR 6, jI a1, jI a2, jI v14] h14 (fun o h17 => ∃ v17, o = .inl (some (jI v17)) ∧ Q (.inl (some (jI v17))) h17)))))) : jCall (d + 1) mJ0_indexOf_7cf53 [jR 5, jI a1, jI a2] h Q := by
  refine jCall_ofF plJ0_indexOf_7cf53 rfl (Nat.le_of_ble_eq_true rfl) ?_
  show jWp (d + 1) mJ0_indexOf_7cf53 0 [(0, jR 5), (1, jI a1), (2, jI a2)] [] h Q
  refine jw_ok (fun ok q => ?_)
  replace k := k ok (q _ (.tail _ (.head _))) (q _ (.tail _ (.tail _ (.head _))))
  refine wp_aload_n 0 dJ0_indexOf_7cf53_0 rfl ?_
  refine wp_callT (y' := mJ0_isLatin1_aae02) (st := []) [] rfl rfl fJ0_isLatin1_aae02 kJ0_492 nJ0_isLatin1_aae02 dJ0_indexOf_7cf53_1 (Nat.le_of_ble_eq_true rfl) ?_
  refine jCall.mono k (fun o h1 k => ?_)
  obtain ⟨v1, e, k⟩ := k
  subst e
  show jWp (d + 1) mJ0_indexOf_7cf53 4 [(0, jR 5), (1, jI a1), (2, jI a2)] [jI v1] h1 Q
  refine wp_if_eq 23 dJ0_indexOf_7cf53_4 rfl (fun q => ?_) (fun q => ?_)
  · replace k := k.1 q
    refine wp_aload_n 0 dJ0_indexOf_7cf53_23 rfl ?_
    refine wp_strval gJ0_9 dJ0_indexOf_7cf53_24 ?_
    refine wp_iload_n 1 dJ0_indexOf_7cf53_27 rfl ?_
    refine wp_iload_n 2 dJ0_indexOf_7cf53_28 rfl ?_
    refine wp_aload_n 0 dJ0_indexOf_7cf53_29 rfl ?_
    refine wp_callT (y' := mJ0_length_8abf5) (st := [jI a2, jI a1, jR 6]) [] rfl rfl fJ0_length_8abf5 kJ0_505 nJ0_length_8abf5 dJ0_indexOf_7cf53_30 (Nat.le_of_ble_eq_true rfl) ?_
    refine jCall.mono k (fun o h30 k => ?_)
    obtain ⟨v30, e, k⟩ := k
    subst e
    show jWp (d + 1) mJ0_indexOf_7cf53 33 [(0, jR 5), (1, jI a1), (2, jI a2)] [jI v30, jI a2, jI a1, jR 6] h30 Q
    refine wp_callS (y' := mJ2_indexOf_4cfef) (st := []) [jR 6, jI a1, jI a2, jI v30] rfl fJ2_indexOf_4cfef kJ0_640 nJ2_indexOf_4cfef dJ0_indexOf_7cf53_33 (Nat.le_of_ble_eq_true rfl) ?_
    refine jCall.mono k (fun o h33 k => ?_)
    obtain ⟨v33, e, k⟩ := k
    subst e
    show jWp (d + 1) mJ0_indexOf_7cf53 36 [(0, jR 5), (1, jI a1), (2, jI a2)] [jI v33] h33 Q
    exact wp_iret dJ0_indexOf_7cf53_36 rfl k
  · replace k := k.2 q
    refine wp_aload_n 0 dJ0_indexOf_7cf53_7 rfl ?_
    refine wp_strval gJ0_9 dJ0_indexOf_7cf53_8 ?_
    refine wp_iload_n 1 dJ0_indexOf_7cf53_11 rfl ?_
    refine wp_iload_n 2 dJ0_indexOf_7cf53_12 rfl ?_
    refine wp_aload_n 0 dJ0_indexOf_7cf53_13 rfl ?_
    refine wp_callT (y' := mJ0_length_8abf5) (st := [jI a2, jI a1, jR 6]) [] rfl rfl fJ0_length_8abf5 kJ0_505 nJ0_length_8abf5 dJ0_indexOf_7cf53_14 (Nat.le_of_ble_eq_true rfl) ?_
    refine jCall.mono k (fun o h14 k => ?_)
    obtain ⟨v14, e, k⟩ := k
    subst e
    show jWp (d + 1) mJ0_indexOf_7cf53 17 [(0, jR 5), (1, jI a1), (2, jI a2)] [jI v14, jI a2, jI a1, jR 6] h14 Q
    refine wp_callS (y' := mJ1_indexOf_4cfef) (st := []) [jR 6, jI a1, jI a2, jI v14] rfl fJ1_indexOf_4cfef kJ0_637 nJ1_indexOf_4cfef dJ0_indexOf_7cf53_17 (Nat.le_of_ble_eq_true rfl) ?_
    refine jCall.mono k (fun o h17 k => ?_)
    obtain ⟨v17, e, k⟩ := k
    subst e
    show jWp (d + 1) mJ0_indexOf_7cf53 20 [(0, jR 5), (1, jI a1), (2, jI a2)] [jI v17] h17 Q
    refine wp_goto 36 dJ0_indexOf_7cf53_20 rfl ?_
    exact wp_iret dJ0_indexOf_7cf53_36 rfl k
theorem bJ0_indexOf_0f7a4 {d : Nat} {h : jH} {Q : jO → jH → Prop} {a1 : Int} (k : jOK h → j32 a1 → jCall d mJ0_indexOf_7cf53 [jR 5, jI a1, jI 0] h (fun o h3 => ∃ v3, o = .inl (some (jI v3)) ∧ Q (.inl (some (jI v3))) h3)) : jCall (d + 1) mJ0_indexOf_0f7a4 [jR 5, jI a1] h Q := by
  refine jCall_ofF plJ0_indexOf_0f7a4 rfl (Nat.le_of_ble_eq_true rfl) ?_
  show jWp (d + 1) mJ0_indexOf_0f7a4 0 [(0, jR 5), (1, jI a1)] [] h Q
  refine jw_ok (fun ok q => ?_)
  replace k := k ok (q _ (.tail _ (.head _)))
  refine wp_aload_n 0 dJ0_indexOf_0f7a4_0 rfl ?_
  refine wp_iload_n 1 dJ0_indexOf_0f7a4_1 rfl ?_
  refine wp_iconst dJ0_indexOf_0f7a4_2 ⟨by decide, by decide⟩ ?_
  refine wp_callT (y' := mJ0_indexOf_7cf53) (st := []) [jI a1, jI 0] rfl rfl fJ0_indexOf_7cf53 kJ0_633 nJ0_indexOf_7cf53 dJ0_indexOf_0f7a4_3 (Nat.le_of_ble_eq_true rfl) ?_
  refine jCall.mono k (fun o h3 k => ?_)
  obtain ⟨v3, e, k⟩ := k
  subst e
  show jWp (d + 1) mJ0_indexOf_0f7a4 6 [(0, jR 5), (1, jI a1)] [jI v3] h3 Q
  exact wp_iret dJ0_indexOf_0f7a4_6 rfl k
