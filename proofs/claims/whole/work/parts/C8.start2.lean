/-! THE WORLD AT THE START: statics, strings -/
section ST
variable {args : Array Value} {s : State}
def jA0 (s : State) : Nat → Prop := fun q => s.heap.size ≤ q
theorem jA0_no : ∀ a : Nat, a < s.heap.size → ¬ jA0 s a := fun a h z => absurd z (Nat.not_le.mpr h)
theorem lw_t (i : Nat) {w : Cond} (h : tables_1[i]? = some w) (hts : ∀ w ∈ lw_tbl, w.before args s = true) : w.before args s = true := hts w (List.mem_append_right _ (List.mem_of_getElem? h))
theorem lw_n (i : Nat) {w : Cond} (h : lwN[i]? = some w) (hn : ∀ w ∈ lwN, w.before args s = true) : w.before args s = true := hn w (List.mem_of_getElem? h)
theorem lw_arr {C n : String} {N : Nat} {vals : List Int} {k : Nat} (hn : ∀ w ∈ lwN, w.before args s = true) (hN : vals.length = N) (h31 : N < 2 ^ 31) (harr : (Cond.arrayOf (.static C n "[I") .int).before args s = true) (hlen : (Cond.eq (.length (.static C n "[I")) (.int (Int32.ofNat N))).before args s = true) (hel : elsOK (.static C n "[I") 0 vals (lwN.drop k) = true) (hl : (Cond.laysStatic C n "[I").before args s = true) (hini : (Cond.initialized C).before args s = true) : ∃ t : Nat, t < s.heap.size ∧ va_T .int t N (fun j => .int (Int32.ofInt (vals.getD j 0))) (jA0 s) s s.heap ∧ va_Z C n "[I" (.ref t) (jA0 s) s s.heap := by
  obtain ⟨t, e, T⟩ := va_Tof (f := fun j => .int (Int32.ofInt (vals.getD j 0))) (A := jA0 s) h31 harr (va_eqt hlen) (fun j hj => va_eqt (by
    have := elsOK_at vals 0 _ hel j (by omega)
    rw [Nat.zero_add] at this
    exact hn _ (List.mem_of_mem_drop this))) jA0_no
  refine ⟨t, ?_, T, va_Zref hl hini e jA0_no⟩
  obtain ⟨cell, h1, -⟩ := T
  exact (Array.getElem?_eq_some_iff.mp h1).1
theorem lin_els : elsOK (.static RX8 "LINES" "[I") 0 jLIN (lwN.drop 116) = true := by decide +kernel
theorem wan_els : elsOK (.static RX8 "WANTS" "[I") 0 jWAN (lwN.drop 644) = true := by decide +kernel
theorem lw_1 (hts : ∀ w ∈ lw_tbl, w.before args s = true) (hn : ∀ w ∈ lwN, w.before args s = true) : ∃ t : Nat, t < s.heap.size ∧ va_T .int t 106 (jsv 1) (jA0 s) s s.heap ∧ va_Z RX1 "WIDTHS" "[I" (.ref t) (jA0 s) s s.heap :=
  lw_arr (vals := jWID) (k := 7) hn jS_l1 (by decide) (lw_n 5 (by decide +kernel) hn) (lw_n 6 (by decide +kernel) hn) wid_els (lw_t 156 (by decide +kernel) hts) (lw_t 8 (by decide +kernel) hts)
theorem lw_2 (hts : ∀ w ∈ lw_tbl, w.before args s = true) (hn : ∀ w ∈ lwN, w.before args s = true) : ∃ t : Nat, t < s.heap.size ∧ va_T .int t 520 (jsv 2) (jA0 s) s s.heap ∧ va_Z RX8 "LINES" "[I" (.ref t) (jA0 s) s s.heap :=
  lw_arr (vals := jLIN) (k := 116) hn (by decide +kernel) (by decide) (lw_n 114 (by decide +kernel) hn) (lw_n 115 (by decide +kernel) hn) lin_els (lw_t 354 (by decide +kernel) hts) (lw_t 12 (by decide +kernel) hts)
theorem lw_3 (hts : ∀ w ∈ lw_tbl, w.before args s = true) (hn : ∀ w ∈ lwN, w.before args s = true) : ∃ t : Nat, t < s.heap.size ∧ va_T .int t 91 (jsv 3) (jA0 s) s s.heap ∧ va_Z RX8 "WANTS" "[I" (.ref t) (jA0 s) s s.heap :=
  lw_arr (vals := jWAN) (k := 644) hn (by decide +kernel) (by decide) (lw_n 642 (by decide +kernel) hn) (lw_n 643 (by decide +kernel) hn) wan_els (lw_t 577 (by decide +kernel) hts) (lw_t 12 (by decide +kernel) hts)
theorem lw_4 (hts : ∀ w ∈ lw_tbl, w.before args s = true) (hn : ∀ w ∈ lwN, w.before args s = true) : va_Z "java/lang/String" "COMPACT_STRINGS" "Z" (.int 1) (jA0 s) s s.heap :=
  va_Zof (lw_t 434 (by decide +kernel) hts) (lw_t 13 (by decide +kernel) hts) (va_eqt (lw_n 636 (by decide +kernel) hn)) jA0_no
theorem lw_5 (hts : ∀ w ∈ lw_tbl, w.before args s = true) (hn : ∀ w ∈ lwN, w.before args s = true) : vx_Zq Bundle.tN "UNASSIGNED_STACK" Bundle.steD (jA0 s) s s.heap ∧ vx_Zq Bundle.tN "SUPPRESSED_SENTINEL" Bundle.listD (jA0 s) s s.heap :=
  ⟨vx_Zqof (lw_t 891 (by decide +kernel) hts) (lw_t 19 (by decide +kernel) hts) (lw_n 735 (by decide +kernel) hn) jA0_no, vx_Zqof (lw_t 893 (by decide +kernel) hts) (lw_t 19 (by decide +kernel) hts) (lw_n 736 (by decide +kernel) hn) jA0_no⟩
theorem lw_6 (hn : ∀ w ∈ lwN, w.before args s = true) : va_Nc "java/util/NoSuchElementException" "java/lang/IndexOutOfBoundsException" s := va_Nc.of (lw_n 746 (by decide +kernel) hn)
theorem lw_7 (hts : ∀ w ∈ lw_tbl, w.before args s = true) (hn : ∀ w ∈ lwN, w.before args s = true) : jao s := ⟨va_AO.of (lw_t 58 (by decide +kernel) hts), va_AO.of (lw_t 95 (by decide +kernel) hts), lw_6 hn⟩
end ST
