/-! THE WORLD AT THE START: texts, classes -/
section SX
variable {args : Array Value} {s : State}
abbrev tMK : Term := .string RX8 23
theorem mk_els : elsOK (.field tMK "java/lang/String" "value" "[B") 0 jMKI (lwN.drop 774) = true := by decide +kernel
theorem mk_byt : ∀ j : Nat, j < 20 → Int32.ofInt (jMKI.getD j 0) = jMKB.getD j 0 := by decide
theorem one1 {P : Nat → Prop} (h : P 0) : ∀ i : Nat, i < 1 → P i := fun i hi => by
  have e : i = 0 := by omega
  rw [e]; exact h
theorem mk_el (hn : ∀ w ∈ lwN, w.before args s = true) : ∀ j : Nat, j < 20 → (Cond.eq (.elem (.field tMK "java/lang/String" "value" "[B") (.int (Int32.ofNat j))) (.int (jMKB.getD j 0))).before args s = true := fun j hj => by
  have l20 : jMKI.length = 20 := by decide
  have := elsOK_at jMKI 0 _ mk_els j (by omega)
  rw [Nat.zero_add, mk_byt j hj] at this
  exact hn _ (List.mem_of_mem_drop this)
theorem lw_8 (hn : ∀ w ∈ lwN, w.before args s = true) : ∃ a b : Nat, vk_S 1 [20] [jMKB] (fun _ => a) (fun _ => b) (jA0 s) s s.heap ∧ tMK.eval args s none [] s = some (.ref a) := by
  obtain ⟨f, g, h1, h2⟩ := vk_Sof (args := args) (s := s) (N := 1) (tm := fun _ => tMK) (len := [20]) (byt := [jMKB]) (A := jA0 s) (one1 (by decide)) (one1 (lw_n 770 (by decide +kernel) hn)) (one1 (lw_n 771 (by decide +kernel) hn)) (one1 (lw_n 772 (by decide +kernel) hn)) (one1 (lw_n 773 (by decide +kernel) hn)) (one1 (mk_el hn)) (fun i j hi hj hne => absurd (by omega) hne) jA0_no
  exact ⟨f 0, g 0, ⟨one1 (h1.1 0 (by decide)), fun i j hi hj _ => by omega⟩, h2 0 (by decide)⟩
theorem lw_tx {own tx : String} {k : Nat} (h1 : (Cond.stringRef own k tx).before args s = true) (h2 : (Cond.exactly (.string own k) "java/lang/String").before args s = true) : ∃ a, vk_R own k tx a s := by
  obtain ⟨a, c, cA, kA, q1, -⟩ := Cond.exactly_spec (args := args) (first := s) (o := none) (s := s) (idx := []) (t := .string own k) (cls := "java/lang/String") h2
  exact ⟨a, vk_R.of h1 q1⟩
theorem lw_9 (hts : ∀ w ∈ lw_tbl, w.before args s = true) (hn : ∀ w ∈ lwN, w.before args s = true) : (∃ a, vk_R RX10 165 "there is no such element" a s) ∧ (∃ a, vk_R RX10 184 "there is no such part" a s) ∧ (∃ a, vk_R RX10 195 "there is no such date" a s) ∧ (∃ a, vk_R RX10 228 "there is no such shelf" a s) ∧ (∃ a, vk_R RX10 256 "there is no symbol" a s) :=
  ⟨lw_tx (lw_t 905 (by decide +kernel) hts) (lw_n 794 (by decide +kernel) hn), lw_tx (lw_t 991 (by decide +kernel) hts) (lw_n 823 (by decide +kernel) hn), lw_tx (lw_t 1007 (by decide +kernel) hts) (lw_n 850 (by decide +kernel) hn), lw_tx (lw_t 1026 (by decide +kernel) hts) (lw_n 878 (by decide +kernel) hn), lw_tx (lw_t 1132 (by decide +kernel) hts) (lw_n 908 (by decide +kernel) hn)⟩
end SX
