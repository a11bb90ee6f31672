/-! THE WORLD AT THE START: arrays, all of it -/
section SA
variable {args : Array Value} {s : State}
theorem lw_arr1 {ty : FieldType} (h : (Cond.arrayClass ty).before args s = true) : ∃ c, ArrOfT s c ty ∧ s.vm.findClass ("[" ++ ty.toString) = some c := by
  obtain ⟨c, k, comp, h1, h2, h3⟩ := Cond.arrayClass_spec h
  exact ⟨c, fun n z => ⟨fun k h => (by cases h), k, h2, comp, h3⟩, h1⟩
theorem lw_arr2 {C : String} (h : (Cond.arrayOver (.object C)).before args s = true) : ∃ c, ArrOfT s c (.object C) ∧ va_RA s c (.object C) := by
  obtain ⟨comp, c, k, h1, h2, h3, h4, h5⟩ := Cond.arrayOver_spec h
  exact ⟨c, fun n z => ⟨fun k h => (by cases h), k, h3, comp, h4⟩, k, comp, h3, h4, h1, h5⟩
theorem lw_tys (hts : ∀ w ∈ lw_tbl, w.before args s = true) : ∃ f : Nat → ClassId, ∀ (k : Nat) (q : ClassId × FieldType), [(f 0, FieldType.int), (f 1, .byte), (f 2, .boolean), (f 3, .long), (f 4, .object RX4), (f 5, .object RX6)][k]? = some q → ArrOfT s q.1 q.2 ∧ va_RA s q.1 q.2 := by
  have i : ∀ {w : Cond}, w ∈ jW → w.before args s = true := fun h => hts _ (jW_tbl h)
  obtain ⟨c0, a0, b0⟩ := lw_arr1 (i ar_int)
  obtain ⟨c1, a1, b1⟩ := lw_arr1 (i ar_byte)
  obtain ⟨c2, a2, b2⟩ := lw_arr1 (i ar_boolean)
  obtain ⟨c3, a3, b3⟩ := lw_arr1 (i ar_long)
  obtain ⟨c4, a4, b4⟩ := lw_arr2 (C := RX4) (lw_t 58 (by decide +kernel) hts)
  obtain ⟨c5, a5, b5⟩ := lw_arr2 (C := RX6) (lw_t 95 (by decide +kernel) hts)
  refine ⟨fun k => [c0, c1, c2, c3, c4, c5].getD k c0, fun k q hq => ?_⟩
  match k, hq with
  | 0, hq => cases hq; exact ⟨a0, b0⟩
  | 1, hq => cases hq; exact ⟨a1, b1⟩
  | 2, hq => cases hq; exact ⟨a2, b2⟩
  | 3, hq => cases hq; exact ⟨a3, b3⟩
  | 4, hq => cases hq; exact ⟨a4, b4⟩
  | 5, hq => cases hq; exact ⟨a5, b5⟩
  | k + 6, hq => simp at hq
/-- the world at the start; what a NoSuchElementException is not stands beside it -/
theorem lw_world {b L : Nat} {xs : Nat → Int32} (hts : ∀ w ∈ lw_tbl, w.before args s = true) (hn : ∀ w ∈ lwN, w.before args s = true) (X : va_X b L xs s s.heap) (hb : b < s.heap.size) : ∃ G : jG, G.2.1 = s.heap.size ∧ G.2.2.1 4 = b ∧ G.2.2.2.2.1 = xs ∧ G.2.2.2.2.2 = L ∧ jlo G s s.heap := by
  obtain ⟨D, hD⟩ := lw_kn hts
  obtain ⟨f, hf⟩ := lw_tys hts
  obtain ⟨t1, l1, T1, Z1⟩ := lw_1 hts hn
  obtain ⟨t2, l2, T2, Z2⟩ := lw_2 hts hn
  obtain ⟨t3, l3, T3, Z3⟩ := lw_3 hts hn
  obtain ⟨a, c, S1, e1⟩ := lw_8 hn
  have la : a < s.heap.size := by
    obtain ⟨cell, h1⟩ := (S1.1 0 (by decide)).1
    exact (Array.getElem?_eq_some_iff.mp h1.1).1
  have lc : c < s.heap.size := by
    obtain ⟨cell, h1, -⟩ := (S1.1 0 (by decide)).2.2.2
    exact (Array.getElem?_eq_some_iff.mp h1).1
  refine ⟨(D, s.heap.size, fun k => [b, t1, t2, t3, b, a, c].getD k b, f, xs, L), rfl, rfl, rfl, rfl, ⟨hD, hf⟩, ⟨⟨T1, T2, T3⟩, ⟨Z1, Z2, Z3⟩, ⟨S1, lw_4 hts hn⟩, lw_5 hts hn⟩, ⟨vk_R.of (lw_t 420 (by decide +kernel) hts) e1, lw_9 hts hn⟩, lw_7 hts hn, X, Nat.le_refl _, fun k hk h1 => ?_⟩
  match k, hk with
  | 0, _ => exact hb
  | 1, _ => exact l1
  | 2, _ => exact l2
  | 3, _ => exact l3
  | 4, _ => exact hb
  | 5, _ => exact la
  | 6, _ => exact lc
  | 7, _ => exact hb
  | 8, _ => exact hb
  | 9, _ => exact hb
  | k + 10, hk => omega
end SA
