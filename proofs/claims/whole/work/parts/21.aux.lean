/-! HELPERS OF THE BLOCKS -/
theorem jS_n1 : ((jS 1).length : Int) = 106 := by rw [jS_l1]; rfl
theorem jS_n2 : ((jS 2).length : Int) = 520 := by rw [jS_l2]; rfl
theorem jS_n3 : ((jS 3).length : Int) = 91 := by rw [jS_l3]; rfl
theorem jCall.mono {d : Nat} {y : jM} {av : List jV} {h : jH} {Q Q' : jO → jH → Prop} (k : jCall d y av h Q) (hm : ∀ o h', Q o h' → Q' o h') : jCall d y av h Q' := by
  intro a b
  obtain ⟨o, h', q, r⟩ := k a b
  exact ⟨o, h', hm _ _ q, r⟩
/-- with what holds of the end -/
theorem jCall.monoR {d : Nat} {y : jM} {av : List jV} {h : jH} {Q Q' : jO → jH → Prop} (k : jCall d y av h Q) (hm : ∀ o h', jOK h' → j_rgO o → Q o h' → Q' o h') : jCall d y av h Q' := by
  intro a b
  obtain ⟨o, h', q, r1, r2, r⟩ := k a b
  exact ⟨o, h', hm _ _ r1 r2 q, r1, r2, r⟩
section AX
variable {d : Nat} {y : jM} {pc : Nat} {ls : List (Nat × jV)} {st : List jV} {h : jH} {Q : jO → jH → Prop}
theorem jw_ok (k : jOK h → (∀ q ∈ ls, j_rg q.2) → jWp d y pc ls st h Q) : jWp d y pc ls st h Q := fun a b c => k a b a b c
theorem jWp.mono {Q' : jO → jH → Prop} (k : jWp d y pc ls st h Q) (hm : ∀ o h', Q o h' → Q' o h') : jWp d y pc ls st h Q' := by
  intro a b c
  obtain ⟨o, h', q, r⟩ := k a b c
  exact ⟨o, h', hm _ _ q, r⟩
theorem wp_iret {x : Int} (hd : decode y.2.1 pc = .ok (.ireturn, 1)) (hr : y.2.2.2.1 = some .int) (hq : Q (.inl (some (jI x))) h) : jWp d y pc ls [jI x] h Q := fun a b c => wp_ireturn hd hr (c (jI x) (.head _)) hq a b c
theorem wp_lret {x : Int} (hd : decode y.2.1 pc = .ok (.lreturn, 1)) (hr : y.2.2.2.1 = some .long) (hq : Q (.inl (some (jL x))) h) : jWp d y pc ls [jL x] h Q := fun a b c => wp_lreturn hd hr (c (jL x) (.head _)) hq a b c
theorem wp_slenN {n : Nat} {m : Int} (hm : ((jS n).length : Int) = m) (hd : decode y.2.1 pc = .ok (.arraylength, 1)) (hn : n = 1 ∨ n = 2 ∨ n = 3) (k : jWp d y (pc + 1) ls (jI m :: st) h Q) : jWp d y pc ls (jR n :: st) h Q := by
  subst hm
  exact wp_slen hn hd k
theorem wp_saldN {n : Nat} {m i : Int} (hm : ((jS n).length : Int) = m) (hd : decode y.2.1 pc = .ok (.iaload, 1)) (hn : n = 1 ∨ n = 2 ∨ n = 3) (h0 : 0 ≤ i) (h1 : i < m) (k : j32 ((jS n).getD i.toNat 0) → jWp d y (pc + 1) ls (jI ((jS n).getD i.toNat 0) :: st) h Q) : jWp d y pc ls (jI i :: jR n :: st) h Q := by
  subst hm
  exact wp_sald hn hd h0 h1 (k (jS_rg n (by omega) _))
theorem j_lk0 {x dflt : Int} : Op.lookupswitch.offset [] dflt x = dflt := rfl
theorem wp_callT {y' : jM} {idx : Nat} (av : List jV) {st0 : List jV} (hs0 : st0 = av.reverse ++ jR 5 :: st) (hcl : y'.1.cls = "java/lang/String") (F : jcv y') (hl : Cond.methodLink y.1.cls idx y'.1 ∈ jW) (hn : (parseMethodDescriptor y'.1.desc).map (fun d => d.parameters.length) = some av.length) (hd : decode y.2.1 pc = .ok (.invokevirtual idx, 3)) (hst : (st.map j_cat).sum ≤ 8)
    (k : jCall d y' (jR 5 :: av) h (jAft (d + 1) y pc ls st Q)) : jWp (d + 1) y pc ls st0 h Q := by
  intro ok h2 h3
  subst hs0
  obtain ⟨o1, h1, hq, ok1, rg1, m1, m2, M⟩ := k ok (fun v hv => by
    rcases List.mem_cons.mp hv with e | e
    · rw [e]; trivial
    · exact h3 v (List.mem_append_left _ (List.mem_reverse.mpr e)))
  refine jcall ok h2 (fun v hv => h3 v (List.mem_append_right _ (List.mem_cons_of_mem _ hv))) hq ok1 rg1 m1 m2 (fun p l e R s m args below meth c G H locs cells slots lsl C f1 f2 f3 f4 hle hh hS9 => ?_)
  have cb := jCallB (mc := hS h1 - hS h) (ms := hT h1 - hT h) C f1 f2 F.1 F.2.2.2 hl hn
  have C' := C
  obtain ⟨c1, c2, c3, c4, c5, c6, c7, c8, c9, c10, c11⟩ := C
  obtain ⟨cell, q1, q2, q3, q4⟩ := ((c11.2.1.2.2.1.1.1 0 (by decide)).1).kept hS9.2.1
  have hpre := jPc_pre (av := jR 5 :: av) hh c11 hS9
  have e1 : (jR 5 :: av).map (j_tr G) = Value.ref (j_ad G 5) :: av.map (j_tr G) := by
    show j_rv G 5 :: _ = _
    rw [j_rd1 G (by decide)]
  rw [e1] at hpre
  refine ⟨(Value.ref (j_ad G 5) :: av.map (j_tr G)).toArray, vx_runV (own := y.1.cls) (C := y'.1.cls) (index := idx) (As := av.map (j_tr G)) (b := j_ad G 5) ⟨c1, c2, c3, c6, c8⟩ (M l G c10) ⟨cb, c8 _ F.2.1, c8 _ F.2.2.1⟩ ⟨jPc_blind, ⟨cell, q1, q2, ?_⟩, hpre⟩ rfl (by rw [List.length_map]) hle.1 ?_ (j_hW (y := y) hst) hd ⟨f3, f4⟩⟩
  · rw [hcl]
    exact q3
  · show (av.reverse ++ jR 5 :: st).map (j_tr G) = _
    rw [List.map_append, List.map_reverse]
    rfl
end AX
/-! METHODS WHOSE CLASS IS NOT PLAINLY NAMED -/
theorem vx_ofWF {l : Launch} {y : MethodName} {ws ws' : List Cond} {rm : Room} {Pc : Array Value → State → Prop} {Qc : Array Value → State → Outcome → State → Prop} {XC : String → State → State → Prop} {mc ms : Nat} {free : Addr → Prop} {cc : ByteArray} {maxL : Nat} {ret : Option FieldType}
    (hy : plainFor y = true) (hw : ws = Cond.code y cc maxL ret :: ws')
    (body : ∀ p e s m args below meth c s₁, BodyLoose p l y (headSpec ws rm) cc maxL ret e s m args below meth c s₁ → c.maxLocals = maxL → (∀ x ∈ c.exceptionTable.toList, False) → Pc args s →
      W p l e (headSpec ws rm).room s m args below meth c s.heap [] 0 0 (vx_MQ below Qc XC args s mc ms free) (entryFrame m args maxL)) : vx_Met l y ws rm Pc Qc XC mc ms free := by
  refine MetFree.of_bodySF (code := cc) (maxLocals := maxL) (ret := ret) hy ?_ ?_
  · intro args s m h hn
    obtain ⟨meth, c, h1, h2, h3, h4, h5, h6, -, -⟩ := Cond.code_spec hn (atoms_spec (ws := ws) h _ (by rw [hw]; exact List.mem_cons_self))
    exact ⟨meth, c, h1, h2, h3, h4, h5, h6⟩
  · intro p e s m args below meth c s₁ B hml hP _
    have hh0 : s₁.heap = s.heap := by rw [B.state]; rfl
    have ht : ∀ x ∈ c.exceptionTable.toList, False := by
      obtain ⟨meth9, c9, h1, h2, -, -, -, -, h7, -⟩ := Cond.code_spec B.named (atoms_spec (ws := ws) B.pre _ (by rw [hw]; exact List.mem_cons_self))
      cases Option.some.inj (h1.symm.trans B.method)
      cases Option.some.inj (h2.symm.trans (Stand.of_body B).code)
      intro x hx
      rw [Array.isEmpty_iff.mp h7] at hx
      cases hx
    obtain ⟨t, a1, o, b1, b2, b3⟩ := body p e s m args below meth c s₁ B hml ht hP s₁ hh0 (Stand.of_body B)
    exact ⟨t, o, a1, b1, b2, b3⟩
theorem jCall_ofF {d : Nat} {y : jM} {av : List jV} {h : jH} {Q : jO → jH → Prop} (hy : plainFor y.1 = true) (hh : y.2.2.2.2 = []) (hn : jargl av ≤ y.2.2.1)
    (k : jWp d y 0 (jargs 0 av) [] h Q) : jCall d y av h Q := by
  intro h1 h2
  obtain ⟨o, h', hq, ho, hr, m1, m2, K⟩ := k h1 (fun q hq => h2 _ (jargs_mem av 0 q hq)) (fun v hv => by cases hv)
  refine ⟨o, h', hq, ho, hr, m1, m2, fun l G hl => ?_⟩
  have key : ∀ (p : Program) (e : Env) (s : State) (m : MethodId) (args : Array Value) (below : List Frame) (meth : Method) (c : Code) (s₁ : State), BodyLoose p l y.1 (headSpec (jhd y :: jW) (jrm d (hS h' - hS h) (hT h' - hT h))) y.2.1 y.2.2.1 y.2.2.2.1 e s m args below meth c s₁ → c.maxLocals = y.2.2.1 → c.exceptionTable.toList = tableOf y.2.2.2.2 → jPc G av h args s →
      W p l e (jrm d (hS h' - hS h) (hT h' - hT h)) s m args below meth c s.heap [] 0 0 (vx_MQ below (jQc G o h') (jXC G o h') args s (hS h' - hS h) (hT h' - hT h) (jbA G)) (entryFrame m args y.2.2.1) := by
    intro p e s m args below meth c s₁ B hml htb hp
    obtain ⟨rfl, hhr, hlo⟩ := hp
    have hts : ∀ w ∈ jW, w.before (av.map (j_tr G)).toArray s = true := fun w hw => atoms_spec (ws := jhd y :: jW) B.pre w (List.mem_cons_of_mem _ hw)
    have hown : s.vm.findClass y.1.cls = some m.cls := findClass_of_methodNamed B.named
    have hnm : meth.name = y.1.name := (name_of_methodNamed B.named B.method).1
    rw [lg_entry_eq]
    have hle := lv_entry (av.map (j_tr G)) (n := y.2.2.1) (by rw [jargl_sl]; exact hn)
    rw [jargs_map] at hle
    have := K p l e (jrm d (hS h' - hS h) (hT h' - hT h)) s m (av.map (j_tr G)).toArray below meth c G (hS h) (hT h) ⟨B.exec, B.bytes, hml, B.returns, B.notSynchronized, hown, hnm, hts, htb, hl, hlo⟩ (Nat.le_refl _) (Nat.le_refl _) (Nat.le_refl _) (Nat.le_refl _) (Nat.le_refl _) (Nat.le_refl _) s.heap [] _ hle hhr va_S.rf
    rw [Nat.sub_self, Nat.sub_self] at this
    exact this
  have hd : jhd y = Cond.code y.1 y.2.1 y.2.2.1 y.2.2.2.1 := if_pos hh
  refine vx_ofWF (cc := y.2.1) (maxL := y.2.2.1) (ret := y.2.2.2.1) (ws' := jW) hy (by rw [hd]) ?_
  intro p e s m args below meth c s₁ B hml ht hp
  refine key p e s m args below meth c s₁ B hml ?_ hp
  rw [hh]
  cases hl9 : c.exceptionTable.toList with
  | nil => rfl
  | cons x xs => exact absurd (ht x (by rw [hl9]; exact List.mem_cons_self)) (fun h => h)
