/-! STATICS, STRINGS, THE SCRIPT, COPIES -/
theorem j_goto {d : Nat} {y : jM} {pc pc' : Nat} {ls : List (Nat × jV)} {st st' : List jV} {h : jH} {Q : jO → jH → Prop}
    (hr : jOK h → (∀ v ∈ st, j_rg v) → ∀ v ∈ st', j_rg v)
    (go : jOK h → (∀ v ∈ st, j_rg v) → ∀ (p : Program) (l : Launch) (e : Env) (R : Room) (s : State) (m : MethodId) (args : Array Value) (below : List Frame) (meth : Method) (c : Code) (G : jG) (H : Heap) (locs : List Loc) (cells slots : Nat) (Z : State → Prop) (lsl : Array Slot),
      jCx p l s m args meth c y G → va_S (jbA G) s.heap H locs → jhr G h H → lv_has lsl y.2.2.1 (ls.map (j_tl G)) → W p l e R s m args below meth c H locs cells slots Z (F0 m pc' lsl (st'.map (j_tr G))) → W p l e R s m args below meth c H locs cells slots Z (F0 m pc lsl (st.map (j_tr G))))
    (k : jWp d y pc' ls st' h Q) : jWp d y pc ls st h Q := by
  intro h1 h2 h3
  obtain ⟨o, h', hq, ho, hrg, m1, m2, K⟩ := k h1 h2 (hr h1 h3)
  refine ⟨o, h', hq, ho, hrg, m1, m2, fun p l e R s m args below meth c G S0 T0 C f1 f2 f3 f4 f5 f6 H locs lsl hl hh hS => ?_⟩
  exact go h1 h3 p l e R s m args below meth c G H locs _ _ _ lsl C hS hh hl (K p l e R s m args below meth c G S0 T0 C f1 f2 f3 f4 f5 f6 H locs lsl hl hh hS)
section MP
variable {d : Nat} {y : jM} {pc : Nat} {ls : List (Nat × jV)} {st : List jV} {h : jH} {Q : jO → jH → Prop}
theorem j_st5 {st : List jV} {v : jV} (h : ∀ w ∈ st, j_rg w) (hv : j_rg v) : ∀ w ∈ v :: st, j_rg w := List.forall_mem_cons.mpr ⟨hv, h⟩
/-- a static row of numbers -/
theorem wp_gets {n idx : Nat} {C9 nm : String} (hn : n = 1 ∧ C9 = RX1 ∧ nm = "WIDTHS" ∨ n = 2 ∧ C9 = RX8 ∧ nm = "LINES" ∨ n = 3 ∧ C9 = RX8 ∧ nm = "WANTS") (hl : Cond.fieldLink y.1.cls idx C9 nm "[I" ∈ jW) (hd : decode y.2.1 pc = .ok (.getstatic idx, 3)) (k : jWp d y (pc + 3) ls (jR n :: st) h Q) : jWp d y pc ls st h Q := by
  refine j_goto (fun _ b => j_st5 (v := jR n) b trivial) (fun ok b p l e R s m args below meth c G H locs cells slots Z lsl C hS hh hl9 g => ?_) k
  obtain ⟨c1, c2, c3, c4, c5, c6, c7, c8, c9, c10, c11⟩ := C
  obtain ⟨-, ⟨⟨-, -, -⟩, ⟨z1, z2, z3⟩, -, -⟩, -, -, -, -, hlt⟩ := c11
  have hz : va_Z C9 nm "[I" (.ref (G.2.2.1 n)) (jbA G) s s.heap := by
    rcases hn with ⟨rfl, rfl, rfl⟩ | ⟨rfl, rfl, rfl⟩ | ⟨rfl, rfl, rfl⟩
    · exact z1
    · exact z2
    · exact z3
  have g2 : W p l e R s m args below meth c H locs cells slots Z (F0 m (pc + 3) lsl (j_rv G n :: st.map (j_tr G))) := g
  rw [j_rd1 G (by omega : n ≠ 0), show j_ad G n = G.2.2.1 n from if_pos (by omega)] at g2
  exact va_gets c1 c2 hz hS c6 (c8 _ hl) (fun _ q => q) hd g2
theorem jS_rg : ∀ n, n ≤ 3 → ∀ i : Nat, j32 ((jS n).getD i 0) := by
  have key : ∀ l : List Int, (l.all fun x => decide (-2147483648 ≤ x) && decide (x < 2147483648)) = true → ∀ i : Nat, j32 (l.getD i 0) := by
    intro l hl i
    by_cases hi : i < l.length
    · have h1 := List.all_eq_true.mp hl _ (List.getElem_mem hi)
      simp only [Bool.and_eq_true, decide_eq_true_eq] at h1
      rw [List.getD_eq_getElem?_getD, List.getElem?_eq_getElem hi]
      exact h1
    · rw [List.getD_eq_getElem?_getD, List.getElem?_eq_none (by omega)]
      exact j_r0
  intro n hn
  match n, hn with
  | 0, _ => exact key _ (by decide +kernel)
  | 1, _ => exact key _ (by decide +kernel)
  | 2, _ => exact key _ (by decide +kernel)
  | 3, _ => exact key _ (by decide +kernel)
theorem jS_l1 : (jS 1).length = 106 := by decide +kernel
theorem jS_l2 : (jS 2).length = 520 := by decide +kernel
theorem jS_l3 : (jS 3).length = 91 := by decide +kernel
theorem jS_lt {n : Nat} (hn : n = 1 ∨ n = 2 ∨ n = 3) : (jS n).length ≤ 520 := by
  rcases hn with rfl | rfl | rfl
  · rw [jS_l1]; decide
  · rw [jS_l2]; decide
  · rw [jS_l3]; decide
theorem j_stT {G : jG} {n : Nat} {s : State} (hn : n = 1 ∨ n = 2 ∨ n = 3) (h : jst G s s.heap) : va_T .int (G.2.2.1 n) (jS n).length (jsv n) (jbA G) s s.heap := by
  obtain ⟨⟨t1, t2, t3⟩, -⟩ := h
  rcases hn with rfl | rfl | rfl
  · rw [jS_l1]; exact t1
  · rw [jS_l2]; exact t2
  · rw [jS_l3]; exact t3
theorem wp_sald {n : Nat} {i : Int} (hn : n = 1 ∨ n = 2 ∨ n = 3) (hd : decode y.2.1 pc = .ok (.iaload, 1)) (h0 : 0 ≤ i) (h1 : i < ((jS n).length : Int)) (k : jWp d y (pc + 1) ls (jI ((jS n).getD i.toNat 0) :: st) h Q) : jWp d y pc ls (jI i :: jR n :: st) h Q := by
  have hlen : (jS n).length ≤ 520 := jS_lt hn
  refine j_goto (fun _ b => j_st5 (v := jI _) (fun v hv => b v (List.mem_cons_of_mem _ (List.mem_cons_of_mem _ hv))) (jS_rg n (by omega) _)) (fun ok b p l e R s m args below meth c G H locs cells slots Z lsl C hS hh hl9 g => ?_) k
  obtain ⟨c1, c2, c3, c4, c5, c6, c7, c8, c9, c10, c11⟩ := C
  show W p l e R s m args below meth c H locs _ _ _ (F0 m pc lsl (.int (Int32.ofInt i) :: j_rv G n :: st.map (j_tr G)))
  rw [j_rd1 G (by omega : n ≠ 0), show j_ad G n = G.2.2.1 n from if_pos (by omega)]
  exact va_ti c1 c2 (j_stT hn c11.2.1) hS (j_inb h0 h1 (by omega)) (v := .int (Int32.ofInt ((jS n).getD i.toNat 0))) (by rw [j_cl ⟨by omega, by omega⟩]; rfl) hd g
theorem wp_slen {n : Nat} (hn : n = 1 ∨ n = 2 ∨ n = 3) (hd : decode y.2.1 pc = .ok (.arraylength, 1)) (k : jWp d y (pc + 1) ls (jI ((jS n).length : Int) :: st) h Q) : jWp d y pc ls (jR n :: st) h Q := by
  have hlen : (jS n).length ≤ 520 := jS_lt hn
  refine j_goto (fun _ b => j_st5 (v := jI _) (fun v hv => b v (List.mem_cons_of_mem _ hv)) (show j32 _ from ⟨by omega, by omega⟩)) (fun ok b p l e R s m args below meth c G H locs cells slots Z lsl C hS hh hl9 g => ?_) k
  obtain ⟨c1, c2, c3, c4, c5, c6, c7, c8, c9, c10, c11⟩ := C
  show W p l e R s m args below meth c H locs _ _ _ (F0 m pc lsl (j_rv G n :: st.map (j_tr G)))
  rw [j_rd1 G (by omega : n ≠ 0), show j_ad G n = G.2.2.1 n from if_pos (by omega)]
  exact va_tlen c1 c2 (j_stT hn c11.2.1) hS (v := Int32.ofInt ((jS n).length : Int)) Int32.ofInt_eq_ofNat.symm hd g
/-- the script -/
theorem wp_script {i : Int} (hd : decode y.2.1 pc = .ok (.iaload, 1)) (hk : hK h 4 = 21) (h0 : 0 ≤ i) (h1 : i < hN h 4) (k : j32 (hA h 4 i) → jWp d y (pc + 1) ls (jI (hA h 4 i) :: st) h Q) : jWp d y pc ls (jI i :: jR 4 :: st) h Q := by
  intro ok0
  have hr : j32 (hA h 4 i) := by have := ok0.2.1 4 i; rw [hk] at this; exact this
  have hN9 := (ok0.2.2.2.2 4).2
  refine j_goto (fun _ b => j_st5 (v := jI _) (fun v hv => b v (List.mem_cons_of_mem _ (List.mem_cons_of_mem _ hv))) hr) (fun ok b p l e R s m args below meth c G H locs cells slots Z lsl C hS hh hl9 g => ?_) (k hr) ok0
  obtain ⟨c1, c2, c3, c4, c5, c6, c7, c8, c9, c10, c11⟩ := C
  obtain ⟨s1, s2⟩ := hh.2.2.2 hk
  obtain ⟨-, -, -, -, hX, hb, hlt⟩ := c11
  show W p l e R s m args below meth c H locs _ _ _ (F0 m pc lsl (.int (Int32.ofInt i) :: j_rv G 4 :: st.map (j_tr G)))
  rw [j_rd1 G (by decide : (4 : Nat) ≠ 0), show j_ad G 4 = G.2.2.1 4 from rfl]
  refine va_sld c1 c2 hX (Nat.lt_of_lt_of_le (hlt 4 (by decide) (by decide)) hb) (fun z => absurd (hlt 4 (by decide) (by decide)) (Nat.not_lt.mpr z)) hS (j_inb h0 (by rw [← s1]; exact h1) (by omega)) hd ?_
  rw [j_cl ⟨by omega, by omega⟩, s2 _ (by omega), Int.toNat_of_nonneg h0]
  exact g
theorem wp_scriptL (hd : decode y.2.1 pc = .ok (.arraylength, 1)) (hk : hK h 4 = 21) (k : 0 ≤ hN h 4 → jWp d y (pc + 1) ls (jI (hN h 4) :: st) h Q) : jWp d y pc ls (jR 4 :: st) h Q := by
  intro ok0
  have hN9 := ok0.2.2.2.2 4
  refine j_goto (fun _ b => j_st5 (v := jI _) (fun v hv => b v (List.mem_cons_of_mem _ hv)) (show j32 _ from ⟨by omega, by omega⟩)) (fun ok b p l e R s m args below meth c G H locs cells slots Z lsl C hS hh hl9 g => ?_) (k hN9.1) ok0
  obtain ⟨c1, c2, c3, c4, c5, c6, c7, c8, c9, c10, c11⟩ := C
  obtain ⟨s1, s2⟩ := hh.2.2.2 hk
  obtain ⟨-, -, -, -, hX, hb, hlt⟩ := c11
  show W p l e R s m args below meth c H locs _ _ _ (F0 m pc lsl (j_rv G 4 :: st.map (j_tr G)))
  rw [j_rd1 G (by decide : (4 : Nat) ≠ 0), show j_ad G 4 = G.2.2.1 4 from rfl]
  refine va_slen c1 c2 hX (Nat.lt_of_lt_of_le (hlt 4 (by decide) (by decide)) hb) (fun z => absurd (hlt 4 (by decide) (by decide)) (Nat.not_lt.mpr z)) hS hd ?_
  have g2 : W p l e R s m args below meth c H locs cells slots Z (F0 m (pc + 1) lsl (.int (Int32.ofInt (hN h 4)) :: st.map (j_tr G))) := g
  rw [s1, Int32.ofInt_eq_ofNat] at g2
  exact g2
/-- the marks: the text, its bytes, whether texts are compact -/
theorem wp_ldcS (hd : decode y.2.1 pc = .ok (.ldc 23, 2)) (hy : y.1.cls = RX8) (k : jWp d y (pc + 2) ls (jR 5 :: st) h Q) : jWp d y pc ls st h Q := by
  refine j_goto (fun _ b => j_st5 (v := jR 5) b trivial) (fun ok b p l e R s m args below meth c G H locs cells slots Z lsl C hS hh hl9 g => ?_) k
  obtain ⟨c1, c2, c3, c4, c5, c6, c7, c8, c9, c10, c11⟩ := C
  exact va_ldcS c1 c2 (own := RX8) (by rw [← hy]; exact c6) c11.2.2.1.1 hd g
theorem wp_compact {idx : Nat} (hl : Cond.fieldLink y.1.cls idx "java/lang/String" "COMPACT_STRINGS" "Z" ∈ jW) (hd : decode y.2.1 pc = .ok (.getstatic idx, 3)) (k : jWp d y (pc + 3) ls (jI 1 :: st) h Q) : jWp d y pc ls st h Q := by
  refine j_goto (fun _ b => j_st5 (v := jI 1) b (show j32 1 from ⟨by decide, by decide⟩)) (fun ok b p l e R s m args below meth c G H locs cells slots Z lsl C hS hh hl9 g => ?_) k
  obtain ⟨c1, c2, c3, c4, c5, c6, c7, c8, c9, c10, c11⟩ := C
  exact va_gets c1 c2 c11.2.1.2.2.1.2 hS c6 (c8 _ hl) (fun _ q => q) hd g
theorem wp_strval {idx : Nat} (hl : Cond.fieldLink y.1.cls idx "java/lang/String" "value" "[B" ∈ jW) (hd : decode y.2.1 pc = .ok (.getfield idx, 3)) (k : jWp d y (pc + 3) ls (jR 6 :: st) h Q) : jWp d y pc ls (jR 5 :: st) h Q := by
  refine j_goto (fun _ b => j_st5 (v := jR 6) (fun v hv => b v (List.mem_cons_of_mem _ hv)) trivial) (fun ok b p l e R s m args below meth c G H locs cells slots Z lsl C hS hh hl9 g => ?_) k
  obtain ⟨c1, c2, c3, c4, c5, c6, c7, c8, c9, c10, c11⟩ := C
  exact vk_getf c1 c2 (c11.2.1.2.2.1.1.1 0 (by decide)).2.2.1 hS c6 (c8 _ hl) (fun _ q => q) hd g
theorem wp_strcod {idx : Nat} (hl : Cond.fieldLink y.1.cls idx "java/lang/String" "coder" "B" ∈ jW) (hd : decode y.2.1 pc = .ok (.getfield idx, 3)) (k : jWp d y (pc + 3) ls (jI 0 :: st) h Q) : jWp d y pc ls (jR 5 :: st) h Q := by
  refine j_goto (fun _ b => j_st5 (v := jI 0) (fun v hv => b v (List.mem_cons_of_mem _ hv)) j_r0) (fun ok b p l e R s m args below meth c G H locs cells slots Z lsl C hS hh hl9 g => ?_) k
  obtain ⟨c1, c2, c3, c4, c5, c6, c7, c8, c9, c10, c11⟩ := C
  exact vk_getf c1 c2 (c11.2.1.2.2.1.1.1 0 (by decide)).2.1 hS c6 (c8 _ hl) (fun _ q => q) hd g
theorem wp_strlen (hd : decode y.2.1 pc = .ok (.arraylength, 1)) (k : jWp d y (pc + 1) ls (jI 20 :: st) h Q) : jWp d y pc ls (jR 6 :: st) h Q := by
  refine j_goto (fun _ b => j_st5 (v := jI 20) (fun v hv => b v (List.mem_cons_of_mem _ hv)) (show j32 20 from ⟨by decide, by decide⟩)) (fun ok b p l e R s m args below meth c G H locs cells slots Z lsl C hS hh hl9 g => ?_) k
  obtain ⟨c1, c2, c3, c4, c5, c6, c7, c8, c9, c10, c11⟩ := C
  exact va_tlen c1 c2 (c11.2.1.2.2.1.1.1 0 (by decide)).2.2.2 hS (v := Int32.ofInt 20) rfl hd g
theorem wp_strbyte {i : Int} (hd : decode y.2.1 pc = .ok (.baload, 1)) (h0 : 0 ≤ i) (h1 : i < 20) (k : jWp d y (pc + 1) ls (jI (jMKI.getD i.toNat 0) :: st) h Q) : jWp d y pc ls (jI i :: jR 6 :: st) h Q := by
  have key : ∀ n : Nat, n < 20 → j32 (jMKI.getD n 0) ∧ Value.int ((([jMKB].getD 0 []) : List Int32).getD n 0) = Value.int (Int32.ofInt (jMKI.getD n 0)) := by
    intro n hn
    have : ∀ n, n < 20 → (-2147483648 ≤ jMKI.getD n 0 ∧ jMKI.getD n 0 < 2147483648) ∧ (([jMKB].getD 0 []) : List Int32).getD n 0 = Int32.ofInt (jMKI.getD n 0) := by decide +kernel
    exact ⟨(this n hn).1, congrArg _ (this n hn).2⟩
  refine j_goto (fun _ b => j_st5 (v := jI _) (fun v hv => b v (List.mem_cons_of_mem _ (List.mem_cons_of_mem _ hv))) (key _ (by omega)).1) (fun ok b p l e R s m args below meth c G H locs cells slots Z lsl C hS hh hl9 g => ?_) k
  obtain ⟨c1, c2, c3, c4, c5, c6, c7, c8, c9, c10, c11⟩ := C
  exact va_tb c1 c2 (c11.2.1.2.2.1.1.1 0 (by decide)).2.2.2 hS (j_inb h0 h1 (by decide)) (v := .int (Int32.ofInt (jMKI.getD i.toNat 0))) (by rw [j_cl ⟨by omega, by omega⟩]; exact (key _ (by omega)).2) hd g
/-- numbers from one row into another, from the first on -/
theorem wp_copy {a b idx : Nat} {n : Int} (hl : Cond.methodLink y.1.cls idx arraycopyName ∈ jW) (hd : decode y.2.1 pc = .ok (.invokestatic idx, 3)) (hka : hK h a = 10) (hkb : hK h b = 10) (h0 : 0 ≤ n) (h1 : n ≤ hN h a) (h2' : n ≤ hN h b) (hst : (st.map j_cat).sum ≤ 8)
    (k : jWp (d + 1) y (pc + 3) ls st (sF h b (fun j => if 0 ≤ j ∧ j < n then hA h a j else hA h b j)) Q) : jWp (d + 1) y pc ls (jI n :: jI 0 :: jR b :: jI 0 :: jR a :: st) h Q := by
  have w1 : Cond.native arraycopyName ∈ jW := by decide +kernel
  have w2 : Cond.static arraycopyName ∈ jW := by decide +kernel
  have w3 : Cond.initialized "java/lang/System" ∈ jW := by decide +kernel
  intro ok h2 h3
  have okn : jOK (sF h b (fun j => if 0 ≤ j ∧ j < n then hA h a j else hA h b j)) := by
    refine ⟨ok.1, fun a' i' => ?_, ok.2.2⟩
    show j_el (hK h a') (j1 (hA h) b (fun j => if 0 ≤ j ∧ j < n then hA h a j else hA h b j) a' i')
    by_cases e : a' = b
    · subst e
      rw [j1_eq]
      show j_el _ (if _ then _ else _)
      split
      · have := ok.2.1 a i'; rw [hka] at this; rw [hkb]; exact this
      · exact ok.2.1 _ _
    · rw [j1_ne e]
      exact ok.2.1 _ _
  obtain ⟨oo, h', hq, ho, hrg, m1, m2, K⟩ := k okn h2 (fun v hv => h3 v (by simp [hv]))
  refine ⟨oo, h', hq, ho, hrg, m1, m2, fun p l e R s m args below meth c G S0 T0 C f1 f2 f3 f4 f5 f6 H locs lsl hle hh hS9 => ?_⟩
  have g := fun (H1 : Heap) (locs1 : List Loc) => K p l e R s m args below meth c G S0 T0 C f1 f2 f3 f4 f5 f6 H1 locs1 lsl hle
  obtain ⟨c1, c2, c3, c4, c5, c6, c7, c8, c9, c10, c11⟩ := C
  have a10 := (ok.2.2.1 a (by omega) (by omega)).1
  have b10 := (ok.2.2.1 b (by omega) (by omega)).1
  have na := (ok.2.2.2.2 a).2
  have nb := (ok.2.2.2.2 b).2
  have av : ∀ k9 : Nat, hK h k9 = 10 → (fun j : Nat => j_av G h k9 (j : Int)) = fun j : Nat => Value.int (Int32.ofInt (hA h k9 (j : Int))) := by
    intro k9 hk9
    funext j
    unfold j_av
    rw [if_neg (by omega), if_neg (by omega)]
  have ca := hh.2.2.1 a (by omega) (by omega)
  have cb := hh.2.2.1 b (by omega) (by omega)
  rw [hka, av a hka] at ca
  rw [hkb, av b hkb] at cb
  obtain ⟨-, k0, hk0, cm0, hkk0⟩ := (c11.1.2 0 (G.2.2.2.1 0, .int) rfl).1 (hN h a).toNat (fun j => .int (Int32.ofInt (hA h a (j : Int))))
  have rn : j32 n := ⟨by omega, by omega⟩
  have en := j_cl rn
  have r0 : (Int32.ofInt 0).toNatClampNeg = 0 := rfl
  show W p l e R s m args below meth c H locs _ _ _ (F0 m pc lsl (.int (Int32.ofInt n) :: .int (Int32.ofInt 0) :: j_rv G b :: .int (Int32.ofInt 0) :: j_rv G a :: st.map (j_tr G)))
  rw [j_rd1 G (by omega : b ≠ 0), j_rd1 G (by omega : a ≠ 0)]
  intro T hT9 X
  have hcat : ((st.map (j_tr G)).map fun v => v.category).sum = (st.map j_cat).sum := by
    rw [List.map_map]
    congr 1
    exact List.map_congr_left (fun v _ => j_cat_tr G v)
  obtain ⟨vm', X', step⟩ := X.arraycopy c1 c6 (c8 _ hl) (c8 _ w1) (c8 _ w2) (c8 _ w3) (src := j_ad G a) (dst := j_ad G b) (cs := arrV (G.2.2.2.1 0) (hN h a).toNat (fun j => .int (Int32.ofInt (hA h a (j : Int))))) (cd := arrV (G.2.2.2.1 0) (hN h b).toNat (fun j => .int (Int32.ofInt (hA h b (j : Int))))) (srcPos := Int32.ofInt 0) (destPos := Int32.ofInt 0) (n := Int32.ofInt n) (by rw [hT9]; exact ca) (by rw [hT9]; exact cb)
    (fun _ h => by cases h) (fun _ h => by cases h) (fun h => by cases h) (fun h => by cases h) hk0 hk0 hkk0 hkk0 (by simp [refKind]) (by decide) (by decide) (by rw [j_0, j_lt rn j_r0]; omega)
    (by rw [j_size, j_ti rn, j_ti j_r0]; omega)
    (by rw [j_size, j_ti rn, j_ti j_r0]; omega)
    (fun vm₁ _ i hi => by
      have e : (arrV (G.2.2.2.1 0) (hN h a).toNat (fun j => Value.int (Int32.ofInt (hA h a (j : Int))))).slots.getD ((Int32.ofInt 0).toNatClampNeg + i) .null = .int (Int32.ofInt (hA h a (((Int32.ofInt 0).toNatClampNeg + i : Nat) : Int))) := by
        rw [Array.getD_eq_getD_getElem?, arrV_read _ _ (by rw [r0]; omega)]
        rfl
      refine ⟨?_, ?_⟩
      · rw [e]; rfl
      · rw [e]; exact trivial)
    (g := F0 m pc lsl (.int (Int32.ofInt n) :: .int (Int32.ofInt 0) :: .ref (j_ad G b) :: .int (Int32.ofInt 0) :: .ref (j_ad G a) :: st.map (j_tr G))) rfl (by rw [c3]; exact hle.1) (rest := st.map (j_tr G)) rfl (by rw [c2]; exact hd) (by omega) (by
      show 2 * 0 + _ + (nativeFrameWords "java/lang/System" "arraycopy" 5 + 11) ≤ _
      rw [hcat]
      have : nativeFrameWords "java/lang/System" "arraycopy" 5 + 11 ≤ 32 := by decide +kernel
      omega)
  have e1 : copied (arrV (G.2.2.2.1 0) (hN h a).toNat (fun j => .int (Int32.ofInt (hA h a (j : Int))))) (arrV (G.2.2.2.1 0) (hN h b).toNat (fun j => .int (Int32.ofInt (hA h b (j : Int))))) (Int32.ofInt 0) (Int32.ofInt 0) (Int32.ofInt n) = arrV (G.2.2.2.1 0) (hN h b).toNat (fun k => Value.int (va_cpy (fun j : Nat => Int32.ofInt (hA h a (j : Int))) (fun j : Nat => Int32.ofInt (hA h b (j : Int))) (Int32.ofInt 0).toNatClampNeg (Int32.ofInt 0).toNatClampNeg (Int32.ofInt n).toNatClampNeg k)) := va_copied (fun z => .int z) (G.2.2.2.1 0) (G.2.2.2.1 0) (fun j : Nat => Int32.ofInt (hA h a (j : Int))) (fun j : Nat => Int32.ofInt (hA h b (j : Int))) (by rw [en, r0]; omega)
  rw [e1] at X' step
  have hlb : j_ad G b < H.size := (Array.getElem?_eq_some_iff.mp cb).1
  generalize hcell : arrV (G.2.2.2.1 0) (hN h b).toNat (fun k => Value.int (va_cpy (fun j : Nat => Int32.ofInt (hA h a (j : Int))) (fun j : Nat => Int32.ofInt (hA h b (j : Int))) (Int32.ofInt 0).toNatClampNeg (Int32.ofInt 0).toNatClampNeg (Int32.ofInt n).toNatClampNeg k)) = newc at X' step
  have hheap : ((T.setVm vm').setCell (j_ad G b) newc).heap = H.setIfInBounds (j_ad G b) newc := by rw [← hT9]; rfl
  have oq : ∀ q : Nat, q ≠ j_ad G b → (H.setIfInBounds (j_ad G b) newc)[q]? = H[q]? := fun q hq => by simp [Array.getElem?_setIfInBounds, Ne.symm hq]
  have eb : (H.setIfInBounds (j_ad G b) newc)[j_ad G b]? = some newc := by simp [Array.getElem?_setIfInBounds, hlb]
  have hnew : jhr G (sF h b (fun j => if 0 ≤ j ∧ j < n then hA h a j else hA h b j)) (H.setIfInBounds (j_ad G b) newc) := by
    refine hh.upd ok rfl rfl rfl (k := b) (by omega) (by omega) (by simp) oq (fun r q => absurd q (by omega)) (fun _ _ => ?_) (fun _ _ _ _ => rfl) (fun k' j' n9 => ?_) (fun n9 i' => ?_)
    · rw [eb, ← hcell, hkb]
      congr 2
      funext j
      unfold j_av
      rw [if_neg (by show ¬ 14 ≤ hK h b; omega), if_neg (by show ¬ hK h b = 13; omega)]
      show _ = Value.int (Int32.ofInt (j1 (hA h) b (fun j => if 0 ≤ j ∧ j < n then hA h a j else hA h b j) b _))
      rw [j1_eq, r0, en]
      unfold va_cpy
      congr 1
      by_cases hj : j < n.toNat
      · rw [if_pos ⟨Nat.zero_le _, by omega⟩, if_pos ⟨by omega, by omega⟩]
        simp
      · rw [if_neg (by omega), if_neg (by omega)]
    · unfold j_av
      show (if 14 ≤ hK h k' then _ else if hK h k' = 13 then Value.long (Int64.ofInt (j1 (hA h) b (fun j => if 0 ≤ j ∧ j < n then hA h a j else hA h b j) k' j')) else Value.int (Int32.ofInt (j1 (hA h) b (fun j => if 0 ≤ j ∧ j < n then hA h a j else hA h b j) k' j'))) = _
      rw [j1_ne n9]
      rfl
    · show j1 (hA h) b (fun j => if 0 ≤ j ∧ j < n then hA h a j else hA h b j) 4 i' = _
      rw [j1_ne (fun q => n9 q.symm)]
  obtain ⟨t, a1, b1⟩ := g _ _ hnew ⟨by simp; exact hS9.1, fun q g1 g2 => by
      rw [oq q (fun e => g2 (by rw [e]; exact j_ad_in b10))]
      exact hS9.2.1 q g1 g2, fun q hq => by
      rcases List.mem_append.mp hq with h | h
      · exact hS9.2.2 q h
      · obtain ⟨z, -, hz⟩ := List.mem_map.mp h
        rw [← hz]
        exact j_ad_in b10⟩ _ hheap X'
  exact ⟨t, step t a1, b1⟩
end MP
