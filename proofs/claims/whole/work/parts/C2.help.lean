/-! THE LAW'S HELPERS (made by wip/whole/gen/genlh.py) -/
theorem cIO : Cond.castable "java/lang/IndexOutOfBoundsException" "java/lang/IndexOutOfBoundsException" ∈ jW := jWm 866 (by decide +kernel) (by decide +kernel)
theorem cNS : Cond.castable "java/util/NoSuchElementException" "java/util/NoSuchElementException" ∈ jW := jWm 984 (by decide +kernel) (by decide +kernel)
theorem cIS : Cond.castable "java/lang/IllegalStateException" "java/lang/IllegalStateException" ∈ jW := jWm 1125 (by decide +kernel) (by decide +kernel)
section LH
variable {d : Nat} {h : jH} {P Q : jO → jH → Prop} {x o : Nat}
theorem l_element {a0 a1 : Int} (K : hK h x = 8) (C : jCall d mX10_element [jR x, jI a0, jI a1] h P) (k : ∀ r h', P r h' → (∃ v, r = .inl (some (jI v)) ∧ hK h' o = 13 ∧ 0 < hN h' o ∧ Q (.inl (some (jI 0))) (sA h' o 0 v)) ∨ (r = .inr "java/lang/IndexOutOfBoundsException" ∧ Q (.inl (some (jI 1))) h')) : jCall (d + 1) mL_element [jR x, jI a0, jI a1, jR o] h Q := by
  refine jCall_of plL (Nat.le_of_ble_eq_true rfl) ?_
  show jWp (d + 1) mL_element 0 [(0, jR x), (1, jI a0), (2, jI a1), (3, jR o)] [] h Q
  refine wp_aload_n 3 dL_element_0 rfl ?_
  refine wp_iconst dL_element_1 ⟨by decide, by decide⟩ ?_
  refine wp_aload_n 0 dL_element_2 rfl ?_
  refine wp_iload_n 1 dL_element_3 rfl ?_
  refine wp_iload_n 2 dL_element_4 rfl ?_
  refine wp_callC (ci := 7) (y' := mX10_element) (st := [jI 0, jR o]) [jI a0, jI a1] rfl rfl rfl fX10_element kL_7 nX10_element dL_element_5 (Nat.le_of_ble_eq_true rfl) K ?_
  refine jCall.mono C (fun r h' p => ?_)
  rcases k r h' p with ⟨v, rfl, ok1, ok2, q⟩ | ⟨rfl, q⟩
  · show jWp (d + 1) mL_element 8 [(0, jR x), (1, jI a0), (2, jI a1), (3, jR o)] [jI v, jI 0, jR o] h' Q
    refine wp_i2l dL_element_8 ?_
    refine wp_lastore dL_element_9 ok1 (by decide) ok2 ?_
    refine wp_goto 17 dL_element_10 rfl ?_
    refine wp_iconst dL_element_17 ⟨by decide, by decide⟩ ?_
    exact wp_iret dL_element_18 rfl q
  · refine ⟨[], _, [], "java/lang/IndexOutOfBoundsException", 4, 2, rfl, (fun z hz => absurd hz (by simp)), rfl, by decide, qL_13, cIO, .inl ⟨dL_element_13, rfl⟩, by decide, ?_⟩
    show jWp (d + 1) mL_element 15 _ [] h' Q
    refine wp_iconst (n := 1) dL_element_15 ⟨by decide, by decide⟩ ?_
    exact wp_iret dL_element_16 rfl q
theorem l_letter {a0 a1 : Int} (K : hK h x = 8) (C : jCall d mX10_letter [jR x, jI a0, jI a1] h P) (k : ∀ r h', P r h' → (∃ v, r = .inl (some (jI v)) ∧ hK h' o = 13 ∧ 0 < hN h' o ∧ Q (.inl (some (jI 0))) (sA h' o 0 v)) ∨ (r = .inr "java/lang/IndexOutOfBoundsException" ∧ Q (.inl (some (jI 1))) h')) : jCall (d + 1) mL_letter [jR x, jI a0, jI a1, jR o] h Q := by
  refine jCall_of plL (Nat.le_of_ble_eq_true rfl) ?_
  show jWp (d + 1) mL_letter 0 [(0, jR x), (1, jI a0), (2, jI a1), (3, jR o)] [] h Q
  refine wp_aload_n 3 dL_letter_0 rfl ?_
  refine wp_iconst dL_letter_1 ⟨by decide, by decide⟩ ?_
  refine wp_aload_n 0 dL_letter_2 rfl ?_
  refine wp_iload_n 1 dL_letter_3 rfl ?_
  refine wp_iload_n 2 dL_letter_4 rfl ?_
  refine wp_callC (ci := 7) (y' := mX10_letter) (st := [jI 0, jR o]) [jI a0, jI a1] rfl rfl rfl fX10_letter kL_15 nX10_letter dL_letter_5 (Nat.le_of_ble_eq_true rfl) K ?_
  refine jCall.mono C (fun r h' p => ?_)
  rcases k r h' p with ⟨v, rfl, ok1, ok2, q⟩ | ⟨rfl, q⟩
  · show jWp (d + 1) mL_letter 8 [(0, jR x), (1, jI a0), (2, jI a1), (3, jR o)] [jI v, jI 0, jR o] h' Q
    refine wp_i2l dL_letter_8 ?_
    refine wp_lastore dL_letter_9 ok1 (by decide) ok2 ?_
    refine wp_goto 17 dL_letter_10 rfl ?_
    refine wp_iconst dL_letter_17 ⟨by decide, by decide⟩ ?_
    exact wp_iret dL_letter_18 rfl q
  · refine ⟨[], _, [], "java/lang/IndexOutOfBoundsException", 4, 2, rfl, (fun z hz => absurd hz (by simp)), rfl, by decide, qL_13, cIO, .inl ⟨dL_letter_13, rfl⟩, by decide, ?_⟩
    show jWp (d + 1) mL_letter 15 _ [] h' Q
    refine wp_iconst (n := 1) dL_letter_15 ⟨by decide, by decide⟩ ?_
    exact wp_iret dL_letter_16 rfl q
theorem l_part {a0 a1 a2 : Int} (K : hK h x = 8) (C : jCall d mX10_part [jR x, jI a0, jI a1, jI a2] h P) (k : ∀ r h', P r h' → (∃ v, r = .inl (some (jI v)) ∧ hK h' o = 13 ∧ 0 < hN h' o ∧ Q (.inl (some (jI 0))) (sA h' o 0 v)) ∨ (r = .inr "java/lang/IndexOutOfBoundsException" ∧ Q (.inl (some (jI 1))) h')) : jCall (d + 1) mL_part [jR x, jI a0, jI a1, jI a2, jR o] h Q := by
  refine jCall_of plL (Nat.le_of_ble_eq_true rfl) ?_
  show jWp (d + 1) mL_part 0 [(0, jR x), (1, jI a0), (2, jI a1), (3, jI a2), (4, jR o)] [] h Q
  refine wp_aload 4 dL_part_0 rfl ?_
  refine wp_iconst dL_part_2 ⟨by decide, by decide⟩ ?_
  refine wp_aload_n 0 dL_part_3 rfl ?_
  refine wp_iload_n 1 dL_part_4 rfl ?_
  refine wp_iload_n 2 dL_part_5 rfl ?_
  refine wp_iload_n 3 dL_part_6 rfl ?_
  refine wp_callC (ci := 7) (y' := mX10_part) (st := [jI 0, jR o]) [jI a0, jI a1, jI a2] rfl rfl rfl fX10_part kL_18 nX10_part dL_part_7 (Nat.le_of_ble_eq_true rfl) K ?_
  refine jCall.mono C (fun r h' p => ?_)
  rcases k r h' p with ⟨v, rfl, ok1, ok2, q⟩ | ⟨rfl, q⟩
  · show jWp (d + 1) mL_part 10 [(0, jR x), (1, jI a0), (2, jI a1), (3, jI a2), (4, jR o)] [jI v, jI 0, jR o] h' Q
    refine wp_i2l dL_part_10 ?_
    refine wp_lastore dL_part_11 ok1 (by decide) ok2 ?_
    refine wp_goto 19 dL_part_12 rfl ?_
    refine wp_iconst dL_part_19 ⟨by decide, by decide⟩ ?_
    exact wp_iret dL_part_20 rfl q
  · refine ⟨[], _, [], "java/lang/IndexOutOfBoundsException", 5, 2, rfl, (fun z hz => absurd hz (by simp)), rfl, by decide, qL_13, cIO, .inl ⟨dL_part_15, rfl⟩, by decide, ?_⟩
    show jWp (d + 1) mL_part 17 _ [] h' Q
    refine wp_iconst (n := 1) dL_part_17 ⟨by decide, by decide⟩ ?_
    exact wp_iret dL_part_18 rfl q
theorem l_number {a0 a1 : Int} (nc : ∀ (G : jG) (s : State), jlo G s s.heap → va_Nc "java/util/NoSuchElementException" "java/lang/IndexOutOfBoundsException" s) (K : hK h x = 8) (C : jCall d mX10_number [jR x, jI a0, jI a1] h P) (k : ∀ r h', P r h' → (∃ v, r = .inl (some (jL v)) ∧ hK h' o = 13 ∧ 0 < hN h' o ∧ Q (.inl (some (jI 0))) (sA h' o 0 v)) ∨ (r = .inr "java/lang/IndexOutOfBoundsException" ∧ Q (.inl (some (jI 1))) h') ∨ (r = .inr "java/util/NoSuchElementException" ∧ Q (.inl (some (jI 2))) h')) : jCall (d + 1) mL_number [jR x, jI a0, jI a1, jR o] h Q := by
  refine jCall_of plL (Nat.le_of_ble_eq_true rfl) ?_
  show jWp (d + 1) mL_number 0 [(0, jR x), (1, jI a0), (2, jI a1), (3, jR o)] [] h Q
  refine wp_aload_n 3 dL_number_0 rfl ?_
  refine wp_iconst dL_number_1 ⟨by decide, by decide⟩ ?_
  refine wp_aload_n 0 dL_number_2 rfl ?_
  refine wp_iload_n 1 dL_number_3 rfl ?_
  refine wp_iload_n 2 dL_number_4 rfl ?_
  refine wp_callC (ci := 7) (y' := mX10_number) (st := [jI 0, jR o]) [jI a0, jI a1] rfl rfl rfl fX10_number kL_22 nX10_number dL_number_5 (Nat.le_of_ble_eq_true rfl) K ?_
  refine jCall.mono C (fun r h' p => ?_)
  rcases k r h' p with ⟨v, rfl, ok1, ok2, q⟩ | ⟨rfl, q⟩ | ⟨rfl, q⟩
  · show jWp (d + 1) mL_number 8 [(0, jR x), (1, jI a0), (2, jI a1), (3, jR o)] [jL v, jI 0, jR o] h' Q
    refine wp_lastore dL_number_8 ok1 (by decide) ok2 ?_
    refine wp_goto 20 dL_number_9 rfl ?_
    refine wp_iconst dL_number_20 ⟨by decide, by decide⟩ ?_
    exact wp_iret dL_number_21 rfl q
  · refine ⟨[], _, [_], "java/lang/IndexOutOfBoundsException", 4, 2, rfl, (fun z hz => absurd hz (by simp)), rfl, by decide, qL_13, cIO, .inl ⟨dL_number_12, rfl⟩, by decide, ?_⟩
    show jWp (d + 1) mL_number 14 _ [] h' Q
    refine wp_iconst (n := 1) dL_number_14 ⟨by decide, by decide⟩ ?_
    exact wp_iret dL_number_15 rfl q
  · refine ⟨[_], _, [], "java/util/NoSuchElementException", 4, 2, rfl, (fun z hz => .inr (by obtain rfl := List.mem_singleton.mp hz; exact ⟨by decide, "java/lang/IndexOutOfBoundsException", qL_13, nc⟩)), rfl, by decide, qL_26, cNS, .inl ⟨dL_number_16, rfl⟩, by decide, ?_⟩
    show jWp (d + 1) mL_number 18 _ [] h' Q
    refine wp_iconst (n := 2) dL_number_18 ⟨by decide, by decide⟩ ?_
    exact wp_iret dL_number_19 rfl q
theorem l_date {a0 a1 a2 : Int} (nc : ∀ (G : jG) (s : State), jlo G s s.heap → va_Nc "java/util/NoSuchElementException" "java/lang/IndexOutOfBoundsException" s) (K : hK h x = 8) (C : jCall d mX10_date [jR x, jI a0, jI a1, jI a2] h P) (k : ∀ r h', P r h' → (∃ v, r = .inl (some (jI v)) ∧ hK h' o = 13 ∧ 0 < hN h' o ∧ Q (.inl (some (jI 0))) (sA h' o 0 v)) ∨ (r = .inr "java/lang/IndexOutOfBoundsException" ∧ Q (.inl (some (jI 1))) h') ∨ (r = .inr "java/util/NoSuchElementException" ∧ Q (.inl (some (jI 2))) h')) : jCall (d + 1) mL_date [jR x, jI a0, jI a1, jI a2, jR o] h Q := by
  refine jCall_of plL (Nat.le_of_ble_eq_true rfl) ?_
  show jWp (d + 1) mL_date 0 [(0, jR x), (1, jI a0), (2, jI a1), (3, jI a2), (4, jR o)] [] h Q
  refine wp_aload 4 dL_date_0 rfl ?_
  refine wp_iconst dL_date_2 ⟨by decide, by decide⟩ ?_
  refine wp_aload_n 0 dL_date_3 rfl ?_
  refine wp_iload_n 1 dL_date_4 rfl ?_
  refine wp_iload_n 2 dL_date_5 rfl ?_
  refine wp_iload_n 3 dL_date_6 rfl ?_
  refine wp_callC (ci := 7) (y' := mX10_date) (st := [jI 0, jR o]) [jI a0, jI a1, jI a2] rfl rfl rfl fX10_date kL_28 nX10_date dL_date_7 (Nat.le_of_ble_eq_true rfl) K ?_
  refine jCall.mono C (fun r h' p => ?_)
  rcases k r h' p with ⟨v, rfl, ok1, ok2, q⟩ | ⟨rfl, q⟩ | ⟨rfl, q⟩
  · show jWp (d + 1) mL_date 10 [(0, jR x), (1, jI a0), (2, jI a1), (3, jI a2), (4, jR o)] [jI v, jI 0, jR o] h' Q
    refine wp_i2l dL_date_10 ?_
    refine wp_lastore dL_date_11 ok1 (by decide) ok2 ?_
    refine wp_goto 23 dL_date_12 rfl ?_
    refine wp_iconst dL_date_23 ⟨by decide, by decide⟩ ?_
    exact wp_iret dL_date_24 rfl q
  · refine ⟨[], _, [_], "java/lang/IndexOutOfBoundsException", 5, 2, rfl, (fun z hz => absurd hz (by simp)), rfl, by decide, qL_13, cIO, .inl ⟨dL_date_15, rfl⟩, by decide, ?_⟩
    show jWp (d + 1) mL_date 17 _ [] h' Q
    refine wp_iconst (n := 1) dL_date_17 ⟨by decide, by decide⟩ ?_
    exact wp_iret dL_date_18 rfl q
  · refine ⟨[_], _, [], "java/util/NoSuchElementException", 5, 2, rfl, (fun z hz => .inr (by obtain rfl := List.mem_singleton.mp hz; exact ⟨by decide, "java/lang/IndexOutOfBoundsException", qL_13, nc⟩)), rfl, by decide, qL_26, cNS, .inl ⟨dL_date_19, rfl⟩, by decide, ?_⟩
    show jWp (d + 1) mL_date 21 _ [] h' Q
    refine wp_iconst (n := 2) dL_date_21 ⟨by decide, by decide⟩ ?_
    exact wp_iret dL_date_22 rfl q
theorem l_shelve {a0 : Int} (K : hK h x = 8) (C : jCall d mX10_shelve [jR x, jI a0] h P) (k : ∀ r h', P r h' → (∃ v, r = .inl (some (jI v)) ∧ hK h' o = 13 ∧ 0 < hN h' o ∧ Q (.inl (some (jI 0))) (sA h' o 0 v)) ∨ (r = .inr "java/lang/IndexOutOfBoundsException" ∧ Q (.inl (some (jI 1))) h')) : jCall (d + 1) mL_shelve [jR x, jI a0, jR o] h Q := by
  refine jCall_of plL (Nat.le_of_ble_eq_true rfl) ?_
  show jWp (d + 1) mL_shelve 0 [(0, jR x), (1, jI a0), (2, jR o)] [] h Q
  refine wp_aload_n 2 dL_shelve_0 rfl ?_
  refine wp_iconst dL_shelve_1 ⟨by decide, by decide⟩ ?_
  refine wp_aload_n 0 dL_shelve_2 rfl ?_
  refine wp_iload_n 1 dL_shelve_3 rfl ?_
  refine wp_callC (ci := 7) (y' := mX10_shelve) (st := [jI 0, jR o]) [jI a0] rfl rfl rfl fX10_shelve kL_31 nX10_shelve dL_shelve_4 (Nat.le_of_ble_eq_true rfl) K ?_
  refine jCall.mono C (fun r h' p => ?_)
  rcases k r h' p with ⟨v, rfl, ok1, ok2, q⟩ | ⟨rfl, q⟩
  · show jWp (d + 1) mL_shelve 7 [(0, jR x), (1, jI a0), (2, jR o)] [jI v, jI 0, jR o] h' Q
    refine wp_i2l dL_shelve_7 ?_
    refine wp_lastore dL_shelve_8 ok1 (by decide) ok2 ?_
    refine wp_goto 15 dL_shelve_9 rfl ?_
    refine wp_iconst dL_shelve_15 ⟨by decide, by decide⟩ ?_
    exact wp_iret dL_shelve_16 rfl q
  · refine ⟨[], _, [], "java/lang/IndexOutOfBoundsException", 3, 1, rfl, (fun z hz => absurd hz (by simp)), rfl, by decide, qL_13, cIO, .inr ⟨3, dL_shelve_12, rfl, rfl⟩, by decide, ?_⟩
    show jWp (d + 1) mL_shelve 13 _ [] h' Q
    refine wp_iconst (n := 1) dL_shelve_13 ⟨by decide, by decide⟩ ?_
    exact wp_iret dL_shelve_14 rfl q
theorem l_fetch {a0 : Int} (K : hK h x = 8) (C : jCall d mX10_fetch [jR x, jI a0] h P) (k : ∀ r h', P r h' → (∃ v, r = .inl (some (jI v)) ∧ hK h' o = 13 ∧ 0 < hN h' o ∧ Q (.inl (some (jI 0))) (sA h' o 0 v)) ∨ (r = .inr "java/lang/IndexOutOfBoundsException" ∧ Q (.inl (some (jI 1))) h')) : jCall (d + 1) mL_fetch [jR x, jI a0, jR o] h Q := by
  refine jCall_of plL (Nat.le_of_ble_eq_true rfl) ?_
  show jWp (d + 1) mL_fetch 0 [(0, jR x), (1, jI a0), (2, jR o)] [] h Q
  refine wp_aload_n 2 dL_fetch_0 rfl ?_
  refine wp_iconst dL_fetch_1 ⟨by decide, by decide⟩ ?_
  refine wp_aload_n 0 dL_fetch_2 rfl ?_
  refine wp_iload_n 1 dL_fetch_3 rfl ?_
  refine wp_callC (ci := 7) (y' := mX10_fetch) (st := [jI 0, jR o]) [jI a0] rfl rfl rfl fX10_fetch kL_35 nX10_fetch dL_fetch_4 (Nat.le_of_ble_eq_true rfl) K ?_
  refine jCall.mono C (fun r h' p => ?_)
  rcases k r h' p with ⟨v, rfl, ok1, ok2, q⟩ | ⟨rfl, q⟩
  · show jWp (d + 1) mL_fetch 7 [(0, jR x), (1, jI a0), (2, jR o)] [jI v, jI 0, jR o] h' Q
    refine wp_i2l dL_fetch_7 ?_
    refine wp_lastore dL_fetch_8 ok1 (by decide) ok2 ?_
    refine wp_goto 15 dL_fetch_9 rfl ?_
    refine wp_iconst dL_fetch_15 ⟨by decide, by decide⟩ ?_
    exact wp_iret dL_fetch_16 rfl q
  · refine ⟨[], _, [], "java/lang/IndexOutOfBoundsException", 3, 1, rfl, (fun z hz => absurd hz (by simp)), rfl, by decide, qL_13, cIO, .inr ⟨3, dL_fetch_12, rfl, rfl⟩, by decide, ?_⟩
    show jWp (d + 1) mL_fetch 13 _ [] h' Q
    refine wp_iconst (n := 1) dL_fetch_13 ⟨by decide, by decide⟩ ?_
    exact wp_iret dL_fetch_14 rfl q
theorem l_same {a0 : Int} (K : hK h x = 8) (C : jCall d mX10_same [jR x, jI a0] h P) (k : ∀ r h', P r h' → (∃ v, r = .inl (some (jI v)) ∧ (v = 0 ∨ v = 1) ∧ hK h' o = 13 ∧ 0 < hN h' o ∧ Q (.inl (some (jI 0))) (sA h' o 0 v)) ∨ (r = .inr "java/lang/IndexOutOfBoundsException" ∧ Q (.inl (some (jI 1))) h')) : jCall (d + 1) mL_same [jR x, jI a0, jR o] h Q := by
  refine jCall_of plL (Nat.le_of_ble_eq_true rfl) ?_
  show jWp (d + 1) mL_same 0 [(0, jR x), (1, jI a0), (2, jR o)] [] h Q
  refine wp_aload_n 2 dL_same_0 rfl ?_
  refine wp_iconst dL_same_1 ⟨by decide, by decide⟩ ?_
  refine wp_aload_n 0 dL_same_2 rfl ?_
  refine wp_iload_n 1 dL_same_3 rfl ?_
  refine wp_callC (ci := 7) (y' := mX10_same) (st := [jI 0, jR o]) [jI a0] rfl rfl rfl fX10_same kL_38 nX10_same dL_same_4 (Nat.le_of_ble_eq_true rfl) K ?_
  refine jCall.mono C (fun r h' p => ?_)
  rcases k r h' p with ⟨v, rfl, hv, ok1, ok2, q⟩ | ⟨rfl, q⟩
  · show jWp (d + 1) mL_same 7 [(0, jR x), (1, jI a0), (2, jR o)] [jI v, jI 0, jR o] h' Q
    refine wp_if_eq 14 dL_same_7 rfl (fun z => ?_) (fun z => ?_)
    · subst z
      refine wp_lconst (z := 0) dL_same_14 rfl ?_
      refine wp_lastore dL_same_15 ok1 (by decide) ok2 ?_
      refine wp_goto 22 dL_same_16 rfl ?_
      refine wp_iconst dL_same_22 ⟨by decide, by decide⟩ ?_
      exact wp_iret dL_same_23 rfl q
    · obtain rfl : v = 1 := hv.resolve_left z
      refine wp_lconst (z := 1) dL_same_10 rfl ?_
      refine wp_goto 15 dL_same_11 rfl ?_
      refine wp_lastore dL_same_15 ok1 (by decide) ok2 ?_
      refine wp_goto 22 dL_same_16 rfl ?_
      refine wp_iconst dL_same_22 ⟨by decide, by decide⟩ ?_
      exact wp_iret dL_same_23 rfl q
  · refine ⟨[], _, [], "java/lang/IndexOutOfBoundsException", 3, 1, rfl, (fun z hz => absurd hz (by simp)), rfl, by decide, qL_13, cIO, .inr ⟨3, dL_same_19, rfl, rfl⟩, by decide, ?_⟩
    show jWp (d + 1) mL_same 20 _ [] h' Q
    refine wp_iconst (n := 1) dL_same_20 ⟨by decide, by decide⟩ ?_
    exact wp_iret dL_same_21 rfl q
theorem l_join {a0 : Int} (K : hK h x = 8) (C : jCall d mX10_join [jR x, jI a0] h P) (k : ∀ r h', P r h' → (∃ v, r = .inl (some (jI v)) ∧ hK h' o = 13 ∧ 0 < hN h' o ∧ Q (.inl (some (jI 0))) (sA h' o 0 v)) ∨ (r = .inr "java/lang/IndexOutOfBoundsException" ∧ Q (.inl (some (jI 1))) h')) : jCall (d + 1) mL_join [jR x, jI a0, jR o] h Q := by
  refine jCall_of plL (Nat.le_of_ble_eq_true rfl) ?_
  show jWp (d + 1) mL_join 0 [(0, jR x), (1, jI a0), (2, jR o)] [] h Q
  refine wp_aload_n 2 dL_join_0 rfl ?_
  refine wp_iconst dL_join_1 ⟨by decide, by decide⟩ ?_
  refine wp_aload_n 0 dL_join_2 rfl ?_
  refine wp_iload_n 1 dL_join_3 rfl ?_
  refine wp_callC (ci := 7) (y' := mX10_join) (st := [jI 0, jR o]) [jI a0] rfl rfl rfl fX10_join kL_42 nX10_join dL_join_4 (Nat.le_of_ble_eq_true rfl) K ?_
  refine jCall.mono C (fun r h' p => ?_)
  rcases k r h' p with ⟨v, rfl, ok1, ok2, q⟩ | ⟨rfl, q⟩
  · show jWp (d + 1) mL_join 7 [(0, jR x), (1, jI a0), (2, jR o)] [jI v, jI 0, jR o] h' Q
    refine wp_i2l dL_join_7 ?_
    refine wp_lastore dL_join_8 ok1 (by decide) ok2 ?_
    refine wp_goto 15 dL_join_9 rfl ?_
    refine wp_iconst dL_join_15 ⟨by decide, by decide⟩ ?_
    exact wp_iret dL_join_16 rfl q
  · refine ⟨[], _, [], "java/lang/IndexOutOfBoundsException", 3, 1, rfl, (fun z hz => absurd hz (by simp)), rfl, by decide, qL_13, cIO, .inr ⟨3, dL_join_12, rfl, rfl⟩, by decide, ?_⟩
    show jWp (d + 1) mL_join 13 _ [] h' Q
    refine wp_iconst (n := 1) dL_join_13 ⟨by decide, by decide⟩ ?_
    exact wp_iret dL_join_14 rfl q
theorem l_symbol {a0 : Int} (K : hK h x = 8) (C : jCall d mX10_symbol [jR x, jI a0] h P) (k : ∀ r h', P r h' → (∃ v, r = .inl (some (jI v)) ∧ hK h' o = 13 ∧ 0 < hN h' o ∧ Q (.inl (some (jI 0))) (sA h' o 0 v)) ∨ (r = .inr "java/lang/IndexOutOfBoundsException" ∧ Q (.inl (some (jI 1))) h')) : jCall (d + 1) mL_symbol [jR x, jI a0, jR o] h Q := by
  refine jCall_of plL (Nat.le_of_ble_eq_true rfl) ?_
  show jWp (d + 1) mL_symbol 0 [(0, jR x), (1, jI a0), (2, jR o)] [] h Q
  refine wp_aload_n 2 dL_symbol_0 rfl ?_
  refine wp_iconst dL_symbol_1 ⟨by decide, by decide⟩ ?_
  refine wp_aload_n 0 dL_symbol_2 rfl ?_
  refine wp_iload_n 1 dL_symbol_3 rfl ?_
  refine wp_callC (ci := 7) (y' := mX10_symbol) (st := [jI 0, jR o]) [jI a0] rfl rfl rfl fX10_symbol kL_45 nX10_symbol dL_symbol_4 (Nat.le_of_ble_eq_true rfl) K ?_
  refine jCall.mono C (fun r h' p => ?_)
  rcases k r h' p with ⟨v, rfl, ok1, ok2, q⟩ | ⟨rfl, q⟩
  · show jWp (d + 1) mL_symbol 7 [(0, jR x), (1, jI a0), (2, jR o)] [jI v, jI 0, jR o] h' Q
    refine wp_i2l dL_symbol_7 ?_
    refine wp_lastore dL_symbol_8 ok1 (by decide) ok2 ?_
    refine wp_goto 15 dL_symbol_9 rfl ?_
    refine wp_iconst dL_symbol_15 ⟨by decide, by decide⟩ ?_
    exact wp_iret dL_symbol_16 rfl q
  · refine ⟨[], _, [], "java/lang/IndexOutOfBoundsException", 3, 1, rfl, (fun z hz => absurd hz (by simp)), rfl, by decide, qL_13, cIO, .inr ⟨3, dL_symbol_12, rfl, rfl⟩, by decide, ?_⟩
    show jWp (d + 1) mL_symbol 13 _ [] h' Q
    refine wp_iconst (n := 1) dL_symbol_13 ⟨by decide, by decide⟩ ?_
    exact wp_iret dL_symbol_14 rfl q
theorem l_print (K : hK h x = 8) (C : jCall d mX10_print [jR x] h P) (k : ∀ r h', P r h' → (∃ v, r = .inl (some (jI v)) ∧ hK h' o = 13 ∧ 0 < hN h' o ∧ Q (.inl (some (jI 0))) (sA h' o 0 v)) ∨ (r = .inr "java/lang/IllegalStateException" ∧ Q (.inl (some (jI 1))) h')) : jCall (d + 1) mL_print [jR x, jR o] h Q := by
  refine jCall_of plL (Nat.le_of_ble_eq_true rfl) ?_
  show jWp (d + 1) mL_print 0 [(0, jR x), (1, jR o)] [] h Q
  refine wp_aload_n 1 dL_print_0 rfl ?_
  refine wp_iconst dL_print_1 ⟨by decide, by decide⟩ ?_
  refine wp_aload_n 0 dL_print_2 rfl ?_
  refine wp_callC (ci := 7) (y' := mX10_print) (st := [jI 0, jR o]) [] rfl rfl rfl fX10_print kL_48 nX10_print dL_print_3 (Nat.le_of_ble_eq_true rfl) K ?_
  refine jCall.mono C (fun r h' p => ?_)
  rcases k r h' p with ⟨v, rfl, ok1, ok2, q⟩ | ⟨rfl, q⟩
  · show jWp (d + 1) mL_print 6 [(0, jR x), (1, jR o)] [jI v, jI 0, jR o] h' Q
    refine wp_i2l dL_print_6 ?_
    refine wp_lastore dL_print_7 ok1 (by decide) ok2 ?_
    refine wp_goto 14 dL_print_8 rfl ?_
    refine wp_iconst dL_print_14 ⟨by decide, by decide⟩ ?_
    exact wp_iret dL_print_15 rfl q
  · refine ⟨[], _, [], "java/lang/IllegalStateException", 2, 1, rfl, (fun z hz => absurd hz (by simp)), rfl, by decide, qL_52, cIS, .inr ⟨2, dL_print_11, rfl, rfl⟩, by decide, ?_⟩
    show jWp (d + 1) mL_print 12 _ [] h' Q
    refine wp_iconst (n := 1) dL_print_12 ⟨by decide, by decide⟩ ?_
    exact wp_iret dL_print_13 rfl q
end LH
