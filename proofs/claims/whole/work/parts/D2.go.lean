/-! THE LAW FROM ITS ENTRY -/
theorem sbn_drop {s s' : State} {L : List Loc} {c n : Nat} (h : s.sameButNew s' L c n) (hL : ∀ z ∈ L, s.heap.size ≤ z.base) : s.sameButNew s' [] c n := by
  obtain ⟨h1, h2, h3, h4, h5, h6⟩ := h
  refine ⟨h1, h2, h3, h4, h5, fun a c hc => ?_⟩
  obtain ⟨c', e1, e2, e3, e4⟩ := h6 a c hc
  refine ⟨c', e1, e2, e3, fun i _ => e4 i (fun hz => ?_)⟩
  have q1 : s.heap.size ≤ a := hL _ hz
  have q2 := (Array.getElem?_eq_some_iff.mp hc).1
  exact absurd q2 (Nat.not_lt.mpr q1)
def lwQ (_ : Array Value) (s : State) (o : Outcome) (t : State) : Prop := o = .returned (some (.int 1)) ∧ Framed s o t [] 601024 7293034
def lwH0 (xs : Nat → Int32) (L : Nat) : jH := (fun _ _ => 0, fun _ _ => 0, fun a i => if a = 4 then (xs i.toNat).toInt else 0, fun _ _ => 0, fun k => if k = 4 then 21 else 0, fun k => if k = 4 then (L : Int) else 0, 10, 0)
theorem lwH0_ok {xs : Nat → Int32} {L : Nat} (hL : L ≤ 3072) : jOK (lwH0 xs L) := by
  refine ⟨fun f o => ⟨by show -2147483648 ≤ (0 : Int); decide, by show (0 : Int) < _; decide⟩, fun a i => ?_, fun k h1 h2 => ?_, by show 10 ≤ 10; decide, fun k => ?_⟩
  · show j_el (if a = 4 then 21 else 0) (if a = 4 then (xs i.toNat).toInt else 0)
    by_cases c : a = 4
    · rw [if_pos c, if_pos c]; exact j_of _
    · rw [if_neg c, if_neg c]; exact ⟨by decide, by decide⟩
  · change 1 ≤ (if k = 4 then 21 else 0) at h1
    change (if k = 4 then 21 else 0) ≤ 16 at h2
    by_cases c : k = 4
    · rw [if_pos c] at h2; omega
    · rw [if_neg c] at h1; omega
  · show 0 ≤ (if k = 4 then (L : Int) else 0) ∧ (if k = 4 then (L : Int) else 0) < 2147483648
    by_cases c : k = 4
    · rw [if_pos c]; omega
    · rw [if_neg c]; omega
theorem lw_go {p : Program} {l : Launch} {e : Env} {s : State} {m : MethodId} {below : List Frame} {meth : Method} {c : Code} {b L : Nat} {xs : Nat → Int32} (nc : ∀ (G : jG) (s : State), jlo G s s.heap → va_Nc "java/util/NoSuchElementException" "java/lang/IndexOutOfBoundsException" s) (hL : L ≤ 3072) (hx : p.tables.exec = Jvm.exec) (hb : c.code = code) (hml : c.maxLocals = 8) (hr : meth.sig.returnType = some .boolean) (hlocks : meth.locks = false) (hown : s.vm.findClass RL = some m.cls) (hname : meth.name = "law") (hts : ∀ w ∈ lw_tbl, w.before #[Value.ref b] s = true) (htb : c.exceptionTable.toList = []) (hl : l.stackTraces = false) (hn : ∀ w ∈ lwN, w.before #[Value.ref b] s = true) (X : va_X b L xs s s.heap) (hbl : b < s.heap.size) :
    W p l e room_1 s m #[Value.ref b] below meth c s.heap [] 0 0 (fun t => ∃ o, t.status = .running ∧ Ended t below o ∧ lwQ #[Value.ref b] s o t) (entryFrame m ([Value.ref b] : List Value).toArray 8) := by
  obtain ⟨G, g1, g2, g3, g4, lo⟩ := lw_world hts hn X hbl
  obtain ⟨o, h', ⟨ho, q1, q2⟩, ok', rg, m1, m2, K⟩ := lw_all (h := lwH0 xs L) (Q := fun o h' => o = .inl (some (jI 1)) ∧ 6 * hS h' ≤ 6 * 765 + 3072 ∧ hT h' ≤ 70000) nc ⟨rfl, rfl⟩ rfl ⟨by show 0 ≤ (L : Int); omega, by show (L : Int) ≤ 3072; omega⟩ (fun h' a c => ⟨rfl, a, c⟩) (lwH0_ok hL) (fun q hq => by obtain rfl := List.mem_singleton.mp hq; trivial) (fun v hv => nomatch hv)
  rw [lg_entry_eq]
  have hle := lv_entry ([Value.ref b]) (n := 8) (Nat.le_of_ble_eq_true rfl)
  have e4 : j_tl G (0, jR 4) = (0, Value.ref b) := by
    show (0, j_rv G 4) = _
    rw [j_rd1 G (by decide)]
    show (0, Value.ref (G.2.2.1 4)) = _
    rw [g2]
  have hle2 : lv_has ((lg_sl [Value.ref b] ++ List.replicate (8 - (lg_sl [Value.ref b]).length) Slot.unset).toArray) 8 ([(0, jR 4)].map (j_tl G)) := by
    rw [List.map_cons, e4]; exact hle
  have hhr : jhr G (lwH0 xs L) s.heap := by
    refine ⟨by rw [g1]; rfl, fun k r h1 h2 => ?_, fun k h1 h2 => ?_, fun _ => ⟨by rw [g4]; rfl, fun j hj => ?_⟩⟩
    · change 1 ≤ (if k = 4 then 21 else 0) at h1
      change (if k = 4 then 21 else 0) ≤ 9 at h2
      by_cases c : k = 4
      · rw [if_pos c] at h2; omega
      · rw [if_neg c] at h1; omega
    · change 10 ≤ (if k = 4 then 21 else 0) at h1
      change (if k = 4 then 21 else 0) ≤ 15 at h2
      by_cases c : k = 4
      · rw [if_pos c] at h2; omega
      · rw [if_neg c] at h1; omega
    · rw [g3]
      show xs j = Int32.ofInt (if 4 = 4 then (xs (j : Int).toNat).toInt else 0)
      rw [if_pos rfl, Int.toNat_natCast, Int32.ofInt_toInt]
  have k := K p l e room_1 s m #[Value.ref b] below meth c G 10 0 ⟨hx, hb, hml, hr, hlocks, hown, hname, fun w hw => hts w (jW_tbl hw), htb, hl, lo⟩ (by decide) (by decide) (Nat.le_refl _) (Nat.le_refl _) (by show hS h' - 10 ≤ 601024; omega) (by show hT h' - 0 ≤ 7293034; omega) s.heap [] _ hle2 hhr va_S.rf
  intro T hT X9
  obtain ⟨t, a1, oc, b1, b2, b3⟩ := k T hT X9
  refine ⟨t, a1, oc, b1, b2, ?_⟩
  rcases b3 with ⟨⟨v, hv, ev, -⟩, L9, fe, fl⟩ | ⟨q, -, E, ce, L9, ⟨hE, -⟩, -⟩
  · rw [ho] at hv
    cases hv
    refine ⟨ev, fe.1, fe.2.1, (sbn_drop fe.2.2 (fun z hz => ?_)).mono (by omega) (by omega)⟩
    have := fl z hz
    have : G.2.1 ≤ z.base := this
    omega
  · rw [ho] at hE; cases hE
