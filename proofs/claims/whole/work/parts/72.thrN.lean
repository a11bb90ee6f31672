/-! MORE THROWS (made by wip/whole/gen/mkthr2.py) -/
abbrev nsX : String := "java/util/NoSuchElementException"
abbrev nsR : String := "java/lang/RuntimeException"
def nsM (own : String) (ic : Nat) : List Cond := [.methodLink own ic (Bundle.initS nsX), .instantiable nsX 6, .selects nsX Bundle.tFill0 Bundle.tFill0, .selects nsX Bundle.tFill Bundle.tFill, .lays nsX Bundle.tN "cause" "Ljava/lang/Throwable;", .lays nsX Bundle.tN "stackTrace" Bundle.steD, .lays nsX Bundle.tN "suppressedExceptions" Bundle.listD, .lays nsX Bundle.tN "detailMessage" "Ljava/lang/String;", .isRef (.static Bundle.tN "UNASSIGNED_STACK" Bundle.steD), .isRef (.static Bundle.tN "SUPPRESSED_SENTINEL" Bundle.listD), .fieldLink Bundle.tN 198 Bundle.tN "backtrace" "Ljava/lang/Object;", .lays Bundle.tN Bundle.tN "backtrace" "Ljava/lang/Object;", .lays nsX Bundle.tN "backtrace" "Ljava/lang/Object;"]
def nsL (own : String) (ic : Nat) : List Cond := Bundle.throwableAtoms ++ (Bundle.throwableSAtoms ++ (Bundle.passSAtoms nsX nsR 13 prog_25_method_4_code ++ (Bundle.chainSAtoms nsR ["java/lang/Exception"] ++ nsM own ic)))
def nsA (own : String) (ic : Nat) : List Cond := (nsL own ic).filter vx_no
theorem ns_d0 : decode prog_25_method_4_code 0 = .ok (.aload_n 0, 1) := by decide +kernel
theorem ns_d1 : decode prog_25_method_4_code 1 = .ok (.aload_n 1, 1) := by decide +kernel
theorem ns_d2 : decode prog_25_method_4_code 2 = .ok (.invokespecial 13, 3) := by decide +kernel
theorem ns_d5 : decode prog_25_method_4_code 5 = .ok (.return_, 1) := by decide +kernel
theorem ns_fit : Bundle.fit nsX = true := by decide +kernel
theorem ns_fR : Bundle.fit nsR = true := by decide +kernel
section NS
variable {p : Program} {l : Launch} {e : Env} {R : Room} {s : State} {m : MethodId} {args : Array Value} {below : List Frame} {meth : Method} {c : Code} {locs : List Loc} {cells slots : Nat}
theorem ns_ctor {W9 : State} (X : Stand p l e R s m args below meth c W9 locs cells slots) (hexec : p.tables.exec = Jvm.exec) (htr : e.platform.stackTraces = false) {own : String} {ic : Nat}
    (hown : s.vm.findClass own = some m.cls) (h : ∀ w ∈ nsL own ic, w.before args s = true)
    (hlocs : ∀ z ∈ locs, ∀ q, s.heap[z.base]? = some q → q.vm.isStatics = false)
    {a : Addr} {cX : ClassId} {kX : Class} (hf : s.vm.findClass nsX = some cX) (hk0 : s.vm.classes[cX]? = some kX) (hcell : W9.heap[a]? = some (freshCell cX kX)) (hnew : s.heap.size ≤ a) {msg : Value} (hmsg : msg.isRef = true)
    {g : JFrame} (hg : g.method = m) (hsize : g.locals.size = c.maxLocals) (hlk : g.locked = none) (hen : g.entered = []) {rest : List Value} (hst : g.stack = msg :: .ref a :: .ref a :: rest)
    (d6 : decode c.code g.pc = .ok (.invokespecial ic, 3)) (d9 : decode c.code (g.pc + 3) = .ok (.athrow, 1)) (hout : ∀ z ∈ c.exceptionTable.toList, covers z (g.pc + 3) = false)
    (hR1 : 5 < R.frames) (hR2 : 2 * g.monitorRoom + ((Value.ref a :: rest).map fun v => v.category).sum + 81 ≤ R.locals) (hlocks : meth.locks = false) :
    ∃ U : State, Steps p.tables e below (W9.setTop g) U ∧ U.status = .running ∧ Ended U below (.threw a) ∧ s.WarmedH U.vm ∧ s.sameButNew ({ U with vm := s.vm } : State) locs cells slots ∧
      ∃ ce, U.heap[a]? = some ce ∧ s.vm.findClass nsX = some ce.cls ∧ ce.vm = .none := by
  have hpl : e.platform.magicAccessors = ({} : Platform).magicAccessors := by rw [X.admits.platform]
  have h' : ∀ x, x ∈ nsM own ic → x.holds args s none s [] = true := fun x hx => h x (by simp [nsL, hx])
  obtain ⟨T, Z0, L, -, Y⟩ := ThrowableC.of_atoms (args := args) (by rw [X.admits.platform]) (by rw [X.admits.platform]) hpl (fun x hx => h x (by simp [nsL, hx]))
  obtain ⟨Z, M, LZ, LM, hnZ⟩ := Init0T.ofS_atoms (args := args) hpl L Y (fun x hx => h x (by simp [nsL, hx]))
  obtain ⟨P2, Ps, hlen, L2, hL, hm2, hsup2, hpass⟩ := Bundle.chainS (args := args) hpl hnZ ["java/lang/Exception"] nsR ns_fR (fun n hn => by rw [List.mem_singleton.mp hn]; decide +kernel) (fun x hx => h x (by simp [nsL, hx]))
  obtain ⟨P1, L1, hm1, hs1⟩ := PassC.ofS_atoms (args := args) (s := s) hpl (X := nsX) (Y := nsR) (Bundle.fit_spec ns_fit).1 (Bundle.fit_spec ns_fR).2 ns_d0 ns_d1 ns_d2 ns_d5 (fun x hx => h x (by simp [nsL, hx]))
  have hsup1 : P1.sup = P2.m := Option.some.inj (hs1.symm.trans hm2)
  have hfound : s.vm.findClass nsX = some P1.m.cls := findClass_of_methodNamed hm1
  cases Option.some.inj (hf.symm.trans hfound)
  obtain ⟨c1, kX', hc1, hk, hord, -, -, hn6⟩ := Cond.instantiable_spec (h' (.instantiable nsX 6) (by simp [nsM]))
  cases Option.some.inj (hc1.symm.trans hfound)
  cases Option.some.inj (hk0.symm.trans hk)
  have hsel0 : selectMethod e.platform s.vm P1.m.cls T.fill0 = .method T.fill0 := by
    obtain ⟨c2, r2, m2, q1, q2, q3, q4, -⟩ := Cond.selects_spec (h' (.selects nsX Bundle.tFill0 Bundle.tFill0) (by simp [nsM]))
    cases Option.some.inj (q1.symm.trans hfound)
    cases Option.some.inj (q2.symm.trans (State.methodFound?_of_named Y.fill0 (by decide)))
    cases Option.some.inj (q3.symm.trans Y.fill0)
    rw [Launch.admits_selectMethod X.admits]; exact q4
  have hselF : selectMethod e.platform s.vm P1.m.cls T.fill = .method T.fill := by
    obtain ⟨c2, r2, m2, q1, q2, q3, q4, -⟩ := Cond.selects_spec (h' (.selects nsX Bundle.tFill Bundle.tFill) (by simp [nsM]))
    cases Option.some.inj (q1.symm.trans hfound)
    cases Option.some.inj (q2.symm.trans (State.methodFound?_of_named Y.fill (by decide)))
    cases Option.some.inj (q3.symm.trans Y.fill)
    rw [Launch.admits_selectMethod X.admits]; exact q4
  obtain ⟨cS0, hS0, hiss⟩ := Y.statics
  obtain ⟨u0, hu0⟩ := Cond.staticRefV Y.unassigned L.unassignedStatic L.statics hS0 hiss (h' (.isRef (.static Bundle.tN "UNASSIGNED_STACK" Bundle.steD)) (by simp [nsM]))
  obtain ⟨sen, hsen⟩ := Cond.staticRefV Y.sentinel L.sentinelStatic L.statics hS0 hiss (h' (.isRef (.static Bundle.tN "SUPPRESSED_SENTINEL" Bundle.listD)) (by simp [nsM]))
  obtain ⟨ci198, i198, fB, hk198, hg198, ha198, hsB, -, hnB, htB, hffB⟩ := Cond.ownField (t := .object "java/lang/Object") Y.found L.cls (by decide +kernel) (h' (.fieldLink Bundle.tN 198 Bundle.tN "backtrace" "Ljava/lang/Object;") (by simp [nsM])) (h' (.lays Bundle.tN Bundle.tN "backtrace" "Ljava/lang/Object;") (by simp [nsM])) e.platform hpl
  obtain ⟨cS, hS1, heS, -, hkeep⟩ := X.same.2.2.2.2.2 T.aS cS0 hS0
  have hS2 : W9.heap[T.aS]? = some cS := hS1
  have hout' : ∀ i, (⟨T.aS, i⟩ : Loc) ∉ locs := fun i z => by
    have := hlocs _ z cS0 hS0
    rw [hiss] at this; cases this
  have hknown : cS.vm ≠ .unknown := by
    rw [heS]; intro z
    rw [show cS0.vm = .unknown from z] at hiss
    cases hiss
  have hne : T.aS ≠ a := Nat.ne_of_lt (Nat.lt_of_lt_of_le (Array.getElem?_eq_some_iff.mp hS0).1 hnew)
  obtain ⟨iM, hffM⟩ := Y.msg
  obtain ⟨tyC, dC, hdC, hdnC⟩ := Cond.laysAt hfound hk Y.cause (h' (.lays nsX Bundle.tN "cause" "Ljava/lang/Throwable;") (by simp [nsM]))
  obtain ⟨tyS, dS, hdS, hdnS⟩ := Cond.laysAt hfound hk Y.stack (h' (.lays nsX Bundle.tN "stackTrace" Bundle.steD) (by simp [nsM]))
  obtain ⟨tyP, dP, hdP, hdnP⟩ := Cond.laysAt hfound hk Y.supp (h' (.lays nsX Bundle.tN "suppressedExceptions" Bundle.listD) (by simp [nsM]))
  obtain ⟨tyM, dM, hdM, hdnM⟩ := Cond.laysAt hfound hk hffM (h' (.lays nsX Bundle.tN "detailMessage" "Ljava/lang/String;") (by simp [nsM]))
  obtain ⟨tyB, dB, hdB, hdnB⟩ := Cond.laysAt hfound hk hffB (h' (.lays nsX Bundle.tN "backtrace" "Ljava/lang/Object;") (by simp [nsM]))
  have bC := Cond.laysApart hdB hdC hdnB hdnC (by rw [hnB, Y.causeName]; decide)
  have bS := Cond.laysApart hdB hdS hdnB hdnS (by rw [hnB, Y.stackName]; decide)
  have bP := Cond.laysApart hdB hdP hdnB hdnP (by rw [hnB, Y.suppName]; decide)
  have hskip : SkipFacts T e.platform s (fun u => u) u0 ((preparedCellV T.toThrowableT (freshCell P1.m.cls kX) a u0 sen).withEntry W9.cur) :=
    ⟨{ ci198 := ci198, i198 := i198, fBack := fB }, ⟨hk198, hg198, ha198, hsB⟩, by
      have := fresh_default (c := P1.m.cls) tyB
      rw [htB] at this
      simpa [preparedCellV, Cell.setSlot, Cell.withEntry, Array.getElem?_setIfInBounds, bC, bS, bP, bC.symm, bS.symm, bP.symm, defaultValue] using this, fun _ _ => rfl⟩
  obtain ⟨tm, methC, cdC, kC, vm₁, hnC, -, -, -, -, -, -, -, hW₁, st1⟩ := Steps.initColdS (tb := p.tables) (e := e) (below := below) (s := s) (U := W9) X.here hexec X.warmed hpl hown (t := Bundle.initS nsX) rfl rfl (Bundle.fit_spec ns_fit).2
    (h' (.methodLink own ic (Bundle.initS nsX)) (by simp [nsM])) (h (.instanceMethod (Bundle.initS nsX)) (by simp [nsL, Bundle.passSAtoms])) (bytes := prog_25_method_4_code) (maxL := 2) (h (.code (Bundle.initS nsX) prog_25_method_4_code 2 none) (by simp [nsL, Bundle.passSAtoms]))
    (f := g) hg (a := a) (msg := msg) (rest := .ref a :: rest) hst d6
  cases Option.some.inj (hnC.symm.trans hm1)
  obtain ⟨vm₂, X₂, st2⟩ := (X.noted hW₁).ctorMessageOffV hexec (g := { g with stack := .ref a :: rest }) hg hsize T L Z LZ M LM (P1 :: P2 :: Ps)
    (fun P hP => by
      rcases List.mem_cons.mp hP with z | z
      · rw [z]; exact L1
      · rcases List.mem_cons.mp z with z | z
        · rw [z]; exact L2
        · exact hL P z) ⟨hsup1, hsup2, hpass⟩ (u0 := u0) (sen := sen) (self := a) hmsg (cell := freshCell P1.m.cls kX) (cellS := cS)
    hcell (fun _ => by simp) (by simp) rfl rfl hsel0 hselF hS2 hne hknown (by rw [hkeep _ (hout' _)]; exact hu0) (by rw [hkeep _ (hout' _)]; exact hsen)
    (Takes.of_laid hk hord tyC (by rw [Y.causeType]; rfl)) (Takes.of_laid hk hord tyS (by rw [Y.stackType]; exact fits_refV_array _ u0)) (Takes.of_laid hk hord tyP (by rw [Y.suppType]; exact fits_refV_object _ sen))
    (Takes.of_laid hk hord tyM (by rw [Y.msgType]; exact fits_refV_object _ ⟨msg, hmsg⟩)) Y.objLocals hskip htr [] d6
    (by simp only [List.length_cons, List.length_nil, hlen]; omega) (by simp only [List.length_cons, List.length_nil, hlen]; exact hR2)
  obtain ⟨hwalk, hrun, hended, hWU, hsame⟩ := X₂.athrowLeaves hexec (g := { g with stack := .ref a :: rest, pc := g.pc + 3 }) hg hlk hen hout (a := a) (rest := rest) rfl d9
  have hlt : a < ((W9.setVm vm₁).setVm vm₂).heap.size := (Array.getElem?_eq_some_iff.mp hcell).1
  have hU := heapAt_setCell_self (s := (W9.setVm vm₁).setVm vm₂) (plainBareV T.toThrowableT (freshCell P1.m.cls kX) a u0 sen msg) hlt
  refine ⟨_, st1 _ (fun acts => ?_), hrun, hended, hWU, hsame.weaken (fun y hy hlt' => ?_) (Nat.le_refl _) (Nat.le_refl _), _, hU, hfound, rfl⟩
  · rw [doInvoke_state]
    exact st2 _ hwalk
  · rcases List.mem_append.mp hy with h1 | h1
    · exact h1
    · exfalso
      have hb : y.base = a := by
        simp only [List.mem_cons, List.not_mem_nil, or_false] at h1
        rcases h1 with rfl | rfl | rfl | rfl | rfl <;> rfl
      rw [hb] at hlt'
      exact Nat.not_lt.mpr hnew hlt'
end NS
section JT
variable {p : Program} {l : Launch} {e : Env} {R : Room} {s : State} {m : MethodId} {args : Array Value} {below : List Frame} {meth : Method} {c : Code} {H : Heap} {locs : List Loc} {cells slots : Nat} {Q : State → Prop}
variable {mc ms : Nat} {free : Addr → Prop} {A0 A1 : Nat → Prop} {H0 : Heap} {a : Array Value} {ls : Array Slot} {st0 rest : List Value}
variable {Qc : Array Value → State → Outcome → State → Prop} {XC : String → State → State → Prop}
theorem jv_throwN {cc : ByteArray} {pc : Nat} (hexec : p.tables.exec = Jvm.exec) (hb : c.code = cc) (hl : l.stackTraces = false) {own text : String} {ik is ic mc ms sa : Nat} {A : Nat → Prop}
    (hown : s.vm.findClass own = some m.cls) 
    (hk : (Cond.classLink own ik nsX).before args s = true) (hini : (Cond.initialized nsX).before args s = true) (hstr : vk_R own is text sa s) (hat : ∀ w ∈ nsA own ic, w.before args s = true)
    (hgood : ∀ w ∈ Cond.classLink own ik nsX :: Cond.initialized nsX :: nsA own ic, vx_ot w = true)
    (hU : vx_Zq Bundle.tN "UNASSIGNED_STACK" Bundle.steD A s s.heap) (hN : vx_Zq Bundle.tN "SUPPRESSED_SENTINEL" Bundle.listD A s s.heap) (hS : va_S A s.heap H locs) (hsize : ls.size = c.maxLocals)
    (d0 : decode cc pc = .ok (.new ik, 3)) (d3 : decode cc (pc + 3) = .ok (.dup, 1)) (d4 : decode cc (pc + 4) = .ok (.ldc is, 2)) (d6 : decode cc (pc + 6) = .ok (.invokespecial ic, 3)) (d9 : decode cc (pc + 9) = .ok (.athrow, 1))
    (hout : ∀ x ∈ c.exceptionTable.toList, covers x (pc + 9) = false)
    (hRframes : 5 < R.frames) (hRlocals : (rest.map fun v => v.category).sum + (82) ≤ R.locals) (hRcells : cells + 1 ≤ R.cells) (hRslots : slots + 6 ≤ R.slots) (hlocks : meth.locks = false)
    (hx : ∀ t : State, s.vm.Alike t.vm → t.heap.size = H.size + 1 → (∀ q : Nat, q < H.size → t.heap[q]? = H[q]?) → XC nsX s t)
    (hf : ∀ z ∈ locs, free z.base) (hc : cells + 1 ≤ mc) (hs : slots + 6 ≤ ms) :
    W p l e R s m args below meth c H locs cells slots (vx_MQ below Qc XC args s mc ms free) (F0 m pc ls rest) := by
  intro T hT X
  have htr : e.platform.stackTraces = false := (show e.platform.stackTraces = l.stackTraces by rw [X.admits.platform]).trans hl
  have Y := vx_rebase X (R' := { frames := R.frames, locals := R.locals, cells := 1, slots := 6 }) (Nat.le_refl _) (Nat.le_refl _) hRcells hRslots
  obtain ⟨s', hA⟩ : ∃ z, z = (T.setVm s.vm).setFrames (.invoking m args :: below) := ⟨_, rfl⟩
  rw [← hA] at Y
  have hvm : s'.vm = s.vm := by rw [hA]; rfl
  have hhp : s'.heap = H := by rw [hA]; exact hT
  have hW0 : s.WarmedH s'.vm := by rw [hvm]; exact State.WarmedH.refl s
  have hat' : ∀ w ∈ nsA own ic, w.before args s' = true := fun w hw => vx_ot_at hW0 hvm.symm (hgood w (List.mem_cons_of_mem _ (List.mem_cons_of_mem _ hw))) (hat w hw)
  have hk' : (Cond.classLink own ik nsX).before args s' = true := vx_ot_at hW0 hvm.symm (hgood _ List.mem_cons_self) hk
  have hini' : (Cond.initialized nsX).before args s' = true := vx_ot_at hW0 hvm.symm (hgood _ (List.mem_cons_of_mem _ List.mem_cons_self)) hini
  have hU' : vx_Zq Bundle.tN "UNASSIGNED_STACK" Bundle.steD A s' s'.heap := by rw [hhp]; exact vx_Zq.moved hW0.alike (hU.kept hS.2.1)
  have hN' : vx_Zq Bundle.tN "SUPPRESSED_SENTINEL" Bundle.listD A s' s'.heap := by rw [hhp]; exact vx_Zq.moved hW0.alike (hN.kept hS.2.1)
  have h : ∀ w ∈ nsL own ic, w.before args s' = true := vx_own hat' (vx_isRefq hU'.1) (vx_isRefq hN'.1) hU'.2.word hN'.2.word
  have hown' : s'.vm.findClass own = some m.cls := by rw [hvm]; exact hown
  have hins : (Cond.instantiable nsX 6).before args s' = true := h _ (by simp [nsL, nsM])
  obtain ⟨vm₁, cX, kX, hfX, hkX, -, -, X₁, st1⟩ := Y.newCold hexec (own := own) (C := nsX) (index := ik) (n := 6) hown' hk' hins hini'
    (g := F0 m pc ls rest) rfl (by rw [hb]; exact d0) (Nat.le_refl _) (Nat.le_refl _)
  generalize hT1 : (T.setVm vm₁).pushCell { cls := cX, slots := kX.instanceTypes.map defaultValue, vm := .none } = T1 at X₁ st1
  have hcat : (Value.ref T.heap.size).category = 1 := rfl
  have hcellA : T1.heap[T.heap.size]? = some (freshCell cX kX) := by rw [← hT1]; exact State.heap_pushCell_size _ _
  have d3' : decode c.code (pc + 3) = .ok (.dup, 1) := by rw [hb]; exact d3
  have d4' : decode c.code (pc + 4) = .ok (.ldc is, 2) := by rw [hb]; exact d4
  have hstr' : vk_R own is text sa s' := vk_R.warm hW0 hstr
  obtain ⟨U, hsteps, hrun, hend, hW, hsame, ce, hce, hO, hOv⟩ := ns_ctor X₁ hexec htr (own := own) (ic := ic) hown' h (fun x hx => nomatch hx) hfX hkX hcellA (by rw [hhp, hT]; exact Nat.le_refl _) (msg := .ref sa) rfl
    (g := { method := m, pc := pc + 6, locals := ls, stack := .ref sa :: .ref T.heap.size :: .ref T.heap.size :: rest, locked := none }) rfl hsize rfl rfl (rest := rest) rfl
    (by rw [hb]; exact d6) (by rw [hb]; exact d9) hout hRframes (by simp only [List.map_cons, List.sum_cons, hcat]; omega) hlocks
  obtain ⟨f1, f2⟩ := vx_frame hsame
  rw [hhp] at f1 f2
  have hWs : s.WarmedH U.vm := State.WarmedH.trans hW0 hW
  have hcl : s.vm.findClass nsX = some ce.cls := by
    have h9 := hO
    rw [hvm] at h9
    exact h9
  have hall : s.sameButNew ({ U with vm := s.vm } : State) locs mc ms := by
    subst hA
    obtain ⟨e1, e2⟩ := hsame
    rw [State.setFrames_setFrames] at e1
    have h2 : (T.setVm s.vm).sameButNew ({ U with vm := s.vm } : State) [] (0 + 1) (0 + 6) := ⟨e1, e2⟩
    have h3 := X.same.trans h2
    rw [List.append_nil] at h3
    exact h3.mono hc hs
  refine ⟨U, ?_, .threw T.heap.size, hrun, hend, Or.inr ⟨T.heap.size, rfl, nsX, ce, locs, hx U hWs.alike (by have u1 := hsame.2.2.1; have u2 := (Array.getElem?_eq_some_iff.mp hce).1; rw [hhp] at u1; rw [hT] at u2; exact Nat.le_antisymm u1 (by omega)) (fun q hq => f2 q hq (fun z hz => nomatch hz)), hce, hOv, hcl, hWs, hall, hf⟩⟩
  refine st1 _ ?_
  show Steps p.tables e below (T1.setTop { method := m, pc := pc + 3, locals := ls, stack := .ref T.heap.size :: rest, locked := none }) _
  jvm_step X₁.here [X₁.here.top, hexec, d3', Value.category]
  exact X₁.ldcString hexec (own := own) (text := text) (index := is) (a := sa) hown' hstr'.1 hstr'.2
    (g := { method := m, pc := pc + 4, locals := ls, stack := .ref T.heap.size :: .ref T.heap.size :: rest, locked := none }) rfl d4' _ hsteps
end JT
theorem wp_throwN {d : Nat} {y : jM} {pc : Nat} {ls : List (Nat × jV)} {st : List jV} {h : jH} {Q : jO → jH → Prop} {idx is ic : Nat} {text : String} (hk : Cond.classLink y.1.cls idx nsX ∈ jW) (hini : Cond.initialized nsX ∈ jW) (htx : ∀ (G : jG) (s : State), jtx G s → ∃ a, vk_R y.1.cls is text a s) (hat : ∀ w ∈ nsA y.1.cls ic, w ∈ jW) (hgood : ∀ w ∈ Cond.classLink y.1.cls idx nsX :: Cond.initialized nsX :: nsA y.1.cls ic, vx_ot w = true) (hh0 : y.2.2.2.2 = [])
    (d0 : decode y.2.1 pc = .ok (.new idx, 3)) (d3 : decode y.2.1 (pc + 3) = .ok (.dup, 1)) (d4 : decode y.2.1 (pc + 4) = .ok (.ldc is, 2)) (d6 : decode y.2.1 (pc + 6) = .ok (.invokespecial ic, 3)) (d9 : decode y.2.1 (pc + 9) = .ok (.athrow, 1)) (hst : (st.map j_cat).sum ≤ 8)
    (k : Q (.inr nsX) (sN h 16 0 6)) : jWp (d + 6) y pc ls st h Q := by
  intro ok h2 h3
  refine ⟨.inr nsX, sN h 16 0 6, k, ok.sN (by decide), trivial, (by show hS h ≤ hS h + 1; omega), (by show hT h ≤ hT h + 6; omega), fun p l e R s m args below meth c G S0 T0 C f1 f2 f3 f4 f5 f6 H locs lsl hle hh hS9 => ?_⟩
  have q5 : hS h + 1 - S0 ≤ R.cells := f5
  have q6 : hT h + 6 - T0 ≤ R.slots := f6
  obtain ⟨c1, c2, c3, c4, c5, c6, c7, c8, c9, c10, c11⟩ := C
  obtain ⟨sa, hsa⟩ := htx G s c11.2.2.1
  have hcat : ((st.map (j_tr G)).map fun v => v.category).sum = (st.map j_cat).sum := by
    rw [List.map_map]
    congr 1
    exact List.map_congr_left (fun v _ => j_cat_tr G v)
  refine jv_throwN c1 c2 c10 c6 (c8 _ hk) (c8 _ hini) hsa (fun w hw => c8 _ (hat w hw)) hgood c11.2.1.2.2.2.1 c11.2.1.2.2.2.2 hS9 (by rw [c3]; exact hle.1) d0 d3 d4 d6 d9 (fun x hx => by rw [c9, hh0] at hx; cases hx) (by omega) (by rw [hcat]; omega) (by omega) (by omega) c5 (fun t _ hz hq => ⟨rfl, hh.new ok hz hq (fun r' z _ _ => ?_) (fun z => ?_), (va_S_new hS9 hz hq).F rfl⟩) hS9.2.2 (by show hS h - S0 + 1 ≤ hS h + 1 - S0; omega) (by show hT h - T0 + 6 ≤ hT h + 6 - T0; omega)
  · omega
  · omega
theorem wp_throwW {d : Nat} {y : jM} {pc : Nat} {ls : List (Nat × jV)} {st : List jV} {h : jH} {Q : jO → jH → Prop} {idx is ic : Nat} {cls text : String} {names : List String} (hcls : Bundle.fit cls = true) (hnames : ∀ n ∈ names, Bundle.fit n = true) (hlen : names.length ≤ 2) (hk : Cond.classLink y.1.cls idx cls ∈ jW) (hini : Cond.initialized cls ∈ jW) (htx : ∀ (G : jG) (s : State), jtx G s → ∃ a, vk_R y.1.cls is text a s) (hat : ∀ w ∈ vx_atS y.1.cls ic cls names, w ∈ jW) (hgood : ∀ w ∈ Cond.classLink y.1.cls idx cls :: Cond.initialized cls :: vx_atS y.1.cls ic cls names, vx_ot w = true) (hh0 : y.2.2.2.2 = [])
    (d0 : decode y.2.1 pc = .ok (.new idx, 3)) (d3 : decode y.2.1 (pc + 3) = .ok (.dup, 1)) (d4 : decode y.2.1 (pc + 4) = .ok (.ldc_w is, 3)) (d6 : decode y.2.1 (pc + 7) = .ok (.invokespecial ic, 3)) (d9 : decode y.2.1 (pc + 10) = .ok (.athrow, 1)) (hst : (st.map j_cat).sum ≤ 8)
    (k : Q (.inr cls) (sN h 16 0 6)) : jWp (d + 6) y pc ls st h Q := by
  intro ok h2 h3
  refine ⟨.inr cls, sN h 16 0 6, k, ok.sN (by decide), trivial, (by show hS h ≤ hS h + 1; omega), (by show hT h ≤ hT h + 6; omega), fun p l e R s m args below meth c G S0 T0 C f1 f2 f3 f4 f5 f6 H locs lsl hle hh hS9 => ?_⟩
  have q5 : hS h + 1 - S0 ≤ R.cells := f5
  have q6 : hT h + 6 - T0 ≤ R.slots := f6
  obtain ⟨c1, c2, c3, c4, c5, c6, c7, c8, c9, c10, c11⟩ := C
  obtain ⟨sa, hsa⟩ := htx G s c11.2.2.1
  have hcat : ((st.map (j_tr G)).map fun v => v.category).sum = (st.map j_cat).sum := by
    rw [List.map_map]
    congr 1
    exact List.map_congr_left (fun v _ => j_cat_tr G v)
  refine jv_throwSW c1 c2 c10 c6 hcls hnames (c8 _ hk) (c8 _ hini) hsa (fun w hw => c8 _ (hat w hw)) hgood c11.2.1.2.2.2.1 c11.2.1.2.2.2.2 hS9 (by rw [c3]; exact hle.1) d0 d3 d4 d6 d9 (fun x hx => by rw [c9, hh0] at hx; cases hx) (by omega) (by rw [hcat]; omega) (by omega) (by omega) c5 (fun t _ hz hq => ⟨rfl, hh.new ok hz hq (fun r' z _ _ => ?_) (fun z => ?_), (va_S_new hS9 hz hq).F rfl⟩) hS9.2.2 (by show hS h - S0 + 1 ≤ hS h + 1 - S0; omega) (by show hT h - T0 + 6 ≤ hT h + 6 - T0; omega)
  · omega
  · omega
theorem ns_at : ∀ w ∈ nsA RX10 186, w ∈ jW := by decide +kernel
theorem ns_good : ∀ w ∈ Cond.classLink RX10 182 nsX :: Cond.initialized nsX :: nsA RX10 186, vx_ot w = true := by decide +kernel
/-! BLOCKS OF number, date, print -/
theorem bX10_number {d : Nat} {h : jH} {Q : jO → jH → Prop} {a0 : Nat} {a1 : Int} {a2 : Int} (k : jOK h → j32 a1 → j32 a2 → hK h a0 = 8 ∧ jCall (d + 5) mX10_elementAt [jR a0, jI a1] h (fun o h2 => (∃ v2, o = .inl (some (jR v2)) ∧ hK h2 v2 = 3 ∧ jCall (d + 5) mX4_partBegin [jR v2, jI a2] h2 (fun o h8 => ∃ v8, o = .inl (some (jI v8)) ∧ ((v8 ≠ (-1) → hK h8 v2 = 3 ∧ jCall (d + 5) mX4_partSort [jR v2, jI a2] h8 (fun o h27 => ∃ v27, o = .inl (some (jI v27)) ∧ ((v27 ≠ 2 → hK h27 v2 = 3 ∧ jCall (d + 5) mX4_value [jR v2] h27 (fun o h39 => ∃ v39, o = .inl (some (jR v39)) ∧ hK h39 v2 = 3 ∧ jCall (d + 5) mX4_partBegin [jR v2, jI a2] h39 (fun o h44 => ∃ v44, o = .inl (some (jI v44)) ∧ hK h44 v2 = 3 ∧ jCall (d + 5) mX4_partBytes [jR v2, jI a2] h44 (fun o h49 => ∃ v49, o = .inl (some (jI v49)) ∧ hK h49 v39 = 6 ∧ jCall (d + 5) mX7_digitsAt [jR v39, jI v44, jI v49] h49 (fun o h52 => ∃ v52, o = .inl (some (jL v52)) ∧ Q (.inl (some (jL v52))) h52))))) ∧ (v27 = 2 → Q (.inl (some (jL (-1)))) h27)))) ∧ (v8 = (-1) → Q (.inr "java/util/NoSuchElementException") (sN h8 16 0 6))))) ∨ (∃ E, o = .inr E ∧ Q (.inr E) h2))) : jCall (d + 6) mX10_number [jR a0, jI a1, jI a2] h Q := by
  refine jCall_of plX10 (Nat.le_of_ble_eq_true rfl) ?_
  show jWp (d + 6) mX10_number 0 [(0, jR a0), (1, jI a1), (2, jI a2)] [] h Q
  refine jw_ok (fun ok q => ?_)
  replace k := k ok (q _ (.tail _ (.head _))) (q _ (.tail _ (.tail _ (.head _))))
  refine wp_aload_n 0 dX10_number_0 rfl ?_
  refine wp_iload_n 1 dX10_number_1 rfl ?_
  have c1 := k.1
  replace k := k.2
  refine wp_callV (ci := 7) (y' := mX10_elementAt) (st := []) [jI a1] rfl rfl rfl fX10_elementAt kX10_134 nX10_elementAt dX10_number_2 (Nat.le_of_ble_eq_true rfl) c1 ?_
  refine jCall.mono k (fun o h2 k => ?_)
  rcases k with ⟨v2, e, k⟩ | ⟨E, e, k⟩
  · subst e
    show jWp (d + 6) mX10_number 5 [(0, jR a0), (1, jI a1), (2, jI a2)] [jR v2] h2 Q
    refine wp_astore_n [3, 0] (ls' := [(2, jI a2), (3, jR v2)]) dX10_number_5 (by decide) rfl ?_
    refine wp_aload_n 1 dX10_number_6 rfl ?_
    refine wp_iload_n 0 dX10_number_7 rfl ?_
    have c2 := k.1
    replace k := k.2
    refine wp_callV (ci := 2) (y' := mX4_partBegin) (st := []) [jI a2] rfl rfl rfl fX4_partBegin kX10_173 nX4_partBegin dX10_number_8 (Nat.le_of_ble_eq_true rfl) c2 ?_
    refine jCall.mono k (fun o h8 k => ?_)
    obtain ⟨v8, e, k⟩ := k
    subst e
    show jWp (d + 6) mX10_number 11 [(2, jI a2), (3, jR v2)] [jI v8] h8 Q
    refine wp_iconst dX10_number_11 ⟨by decide, by decide⟩ ?_
    refine wp_icmp_ne 25 dX10_number_12 rfl (fun q => ?_) (fun q => ?_)
    · replace k := k.1 q
      refine wp_aload_n 1 dX10_number_25 rfl ?_
      refine wp_iload_n 0 dX10_number_26 rfl ?_
      have c3 := k.1
      replace k := k.2
      refine wp_callV (ci := 2) (y' := mX4_partSort) (st := []) [jI a2] rfl rfl rfl fX4_partSort kX10_176 nX4_partSort dX10_number_27 (Nat.le_of_ble_eq_true rfl) c3 ?_
      refine jCall.mono k (fun o h27 k => ?_)
      obtain ⟨v27, e, k⟩ := k
      subst e
      show jWp (d + 6) mX10_number 30 [(2, jI a2), (3, jR v2)] [jI v27] h27 Q
      refine wp_iconst dX10_number_30 ⟨by decide, by decide⟩ ?_
      refine wp_icmp_ne 38 dX10_number_31 rfl (fun q => ?_) (fun q => ?_)
      · replace k := k.1 q
        refine wp_aload_n 1 dX10_number_38 rfl ?_
        have c4 := k.1
        replace k := k.2
        refine wp_callV (ci := 2) (y' := mX4_value) (st := []) [] rfl rfl rfl fX4_value kX10_146 nX4_value dX10_number_39 (Nat.le_of_ble_eq_true rfl) c4 ?_
        refine jCall.mono k (fun o h39 k => ?_)
        obtain ⟨v39, e, k⟩ := k
        subst e
        show jWp (d + 6) mX10_number 42 [(2, jI a2), (3, jR v2)] [jR v39] h39 Q
        refine wp_aload_n 1 dX10_number_42 rfl ?_
        refine wp_iload_n 0 dX10_number_43 rfl ?_
        have c5 := k.1
        replace k := k.2
        refine wp_callV (ci := 2) (y' := mX4_partBegin) (st := [jR v39]) [jI a2] rfl rfl rfl fX4_partBegin kX10_173 nX4_partBegin dX10_number_44 (Nat.le_of_ble_eq_true rfl) c5 ?_
        refine jCall.mono k (fun o h44 k => ?_)
        obtain ⟨v44, e, k⟩ := k
        subst e
        show jWp (d + 6) mX10_number 47 [(2, jI a2), (3, jR v2)] [jI v44, jR v39] h44 Q
        refine wp_aload_n 1 dX10_number_47 rfl ?_
        refine wp_iload_n 0 dX10_number_48 rfl ?_
        have c6 := k.1
        replace k := k.2
        refine wp_callV (ci := 2) (y' := mX4_partBytes) (st := [jI v44, jR v39]) [jI a2] rfl rfl rfl fX4_partBytes kX10_179 nX4_partBytes dX10_number_49 (Nat.le_of_ble_eq_true rfl) c6 ?_
        refine jCall.mono k (fun o h49 k => ?_)
        obtain ⟨v49, e, k⟩ := k
        subst e
        show jWp (d + 6) mX10_number 52 [(2, jI a2), (3, jR v2)] [jI v49, jI v44, jR v39] h49 Q
        have c7 := k.1
        replace k := k.2
        refine wp_callV (ci := 5) (y' := mX7_digitsAt) (st := []) [jI v44, jI v49] rfl rfl rfl fX7_digitsAt kX10_191 nX7_digitsAt dX10_number_52 (Nat.le_of_ble_eq_true rfl) c7 ?_
        refine jCall.mono k (fun o h52 k => ?_)
        obtain ⟨v52, e, k⟩ := k
        subst e
        show jWp (d + 6) mX10_number 55 [(2, jI a2), (3, jR v2)] [jL v52] h52 Q
        exact wp_lret dX10_number_55 rfl k
      · replace k := k.2 q
        refine wp_ldc2 dX10_number_34 eX10_189 rfl ⟨by decide, by decide⟩ ?_
        exact wp_lret dX10_number_37 rfl k
    · replace k := k.2 q
      exact wp_throwN qX10_182 th_ns_ini (fun G s t => t.2.2.1) ns_at ns_good rfl dX10_number_15 dX10_number_18 dX10_number_19 dX10_number_21 dX10_number_24 (by decide) k
  · subst e
    exact ⟨k, rfl⟩
theorem bX10_date {d : Nat} {h : jH} {Q : jO → jH → Prop} {a0 : Nat} {a1 : Int} {a2 : Int} {a3 : Int} (k : jOK h → j32 a1 → j32 a2 → j32 a3 → hK h a0 = 8 ∧ jCall (d + 5) mX10_elementAt [jR a0, jI a1] h (fun o h2 => (∃ v2, o = .inl (some (jR v2)) ∧ hK h2 v2 = 3 ∧ jCall (d + 5) mX4_partBegin [jR v2, jI a2] h2 (fun o h10 => ∃ v10, o = .inl (some (jI v10)) ∧ ((v10 = (-1) → Q (.inr "java/util/NoSuchElementException") (sN h10 16 0 6)) ∧ (¬ (v10 = (-1)) → hK h10 v2 = 3 ∧ jCall (d + 5) mX4_partSort [jR v2, jI a2] h10 (fun o h20 => ∃ v20, o = .inl (some (jI v20)) ∧ ((v20 = 4 → hK h20 v2 = 3 ∧ jCall (d + 5) mX4_partBegin [jR v2, jI a2] h20 (fun o h40 => ∃ v40, o = .inl (some (jI v40)) ∧ hK h40 v2 = 3 ∧ jCall (d + 5) mX4_value [jR v2] h40 (fun o h47 => ∃ v47, o = .inl (some (jR v47)) ∧ hK h47 v47 = 6 ∧ jCall (d + 5) mX7_twoDigits [jR v47, jI v40] h47 (fun o h56 => ∃ v56, o = .inl (some (jI v56)) ∧ hK h56 v2 = 3 ∧ jCall (d + 5) mX4_clockYear [jR v2] h56 (fun o h61 => ∃ v61, o = .inl (some (jI v61)) ∧ jCall (d + 5) mX3_yearMeant [jI v56, jI v61] h61 (fun o h64 => ∃ v64, o = .inl (some (jI v64)) ∧ j32 (v40 + 2) ∧ hK h64 v47 = 6 ∧ jCall (d + 5) mX7_twoDigits [jR v47, jI (v40 + 2)] h64 (fun o h75 => ∃ v75, o = .inl (some (jI v75)) ∧ j32 (v40 + 4) ∧ hK h75 v47 = 6 ∧ jCall (d + 5) mX7_twoDigits [jR v47, jI (v40 + 4)] h75 (fun o h86 => ∃ v86, o = .inl (some (jI v86)) ∧ ((a3 = 0 → Q (.inl (some (jI v64))) h86) ∧ (a3 = 1 → Q (.inl (some (jI v75))) h86) ∧ (a3 = 2 → ((v86 ≠ 0 → Q (.inl (some (jI v86))) h86) ∧ (v86 = 0 → jCall (d + 5) mX3_lastDay [jI v64, jI v75] h86 (fun o h135 => ∃ v135, o = .inl (some (jI v135)) ∧ Q (.inl (some (jI v135))) h135)))) ∧ (a3 ≠ 0 → a3 ≠ 1 → a3 ≠ 2 → Q (.inl (some (jI (-1)))) h86)))))))))) ∧ (¬ (v20 = 4) → Q (.inr "java/util/NoSuchElementException") (sN h20 16 0 6)))))))) ∨ (∃ E, o = .inr E ∧ Q (.inr E) h2))) : jCall (d + 6) mX10_date [jR a0, jI a1, jI a2, jI a3] h Q := by
  refine jCall_of plX10 (Nat.le_of_ble_eq_true rfl) ?_
  show jWp (d + 6) mX10_date 0 [(0, jR a0), (1, jI a1), (2, jI a2), (3, jI a3)] [] h Q
  refine jw_ok (fun ok q => ?_)
  replace k := k ok (q _ (.tail _ (.head _))) (q _ (.tail _ (.tail _ (.head _)))) (q _ (.tail _ (.tail _ (.tail _ (.head _)))))
  refine wp_aload_n 0 dX10_date_0 rfl ?_
  refine wp_iload_n 1 dX10_date_1 rfl ?_
  have c1 := k.1
  replace k := k.2
  refine wp_callV (ci := 7) (y' := mX10_elementAt) (st := []) [jI a1] rfl rfl rfl fX10_elementAt kX10_134 nX10_elementAt dX10_date_2 (Nat.le_of_ble_eq_true rfl) c1 ?_
  refine jCall.mono k (fun o h2 k => ?_)
  rcases k with ⟨v2, e, k⟩ | ⟨E, e, k⟩
  · subst e
    show jWp (d + 6) mX10_date 5 [(0, jR a0), (1, jI a1), (2, jI a2), (3, jI a3)] [jR v2] h2 Q
    refine wp_astore [3, 4, 0] (ls' := [(2, jI a2), (3, jI a3), (4, jR v2)]) dX10_date_5 (by decide) rfl ?_
    refine wp_aload 2 dX10_date_7 rfl ?_
    refine wp_iload_n 0 dX10_date_9 rfl ?_
    have c2 := k.1
    replace k := k.2
    refine wp_callV (ci := 2) (y' := mX4_partBegin) (st := []) [jI a2] rfl rfl rfl fX4_partBegin kX10_173 nX4_partBegin dX10_date_10 (Nat.le_of_ble_eq_true rfl) c2 ?_
    refine jCall.mono k (fun o h10 k => ?_)
    obtain ⟨v10, e, k⟩ := k
    subst e
    show jWp (d + 6) mX10_date 13 [(2, jI a2), (3, jI a3), (4, jR v2)] [jI v10] h10 Q
    refine wp_iconst dX10_date_13 ⟨by decide, by decide⟩ ?_
    refine wp_icmp_eq 27 dX10_date_14 rfl (fun q => ?_) (fun q => ?_)
    · replace k := k.1 q
      exact wp_throwN qX10_182 th_ns_ini (fun G s t => t.2.2.2.1) ns_at ns_good rfl dX10_date_27 dX10_date_30 dX10_date_31 dX10_date_33 dX10_date_36 (by decide) k
    · replace k := k.2 q
      refine wp_aload 2 dX10_date_17 rfl ?_
      refine wp_iload_n 0 dX10_date_19 rfl ?_
      have c3 := k.1
      replace k := k.2
      refine wp_callV (ci := 2) (y' := mX4_partSort) (st := []) [jI a2] rfl rfl rfl fX4_partSort kX10_176 nX4_partSort dX10_date_20 (Nat.le_of_ble_eq_true rfl) c3 ?_
      refine jCall.mono k (fun o h20 k => ?_)
      obtain ⟨v20, e, k⟩ := k
      subst e
      show jWp (d + 6) mX10_date 23 [(2, jI a2), (3, jI a3), (4, jR v2)] [jI v20] h20 Q
      refine wp_iconst dX10_date_23 ⟨by decide, by decide⟩ ?_
      refine wp_icmp_eq 37 dX10_date_24 rfl (fun q => ?_) (fun q => ?_)
      · replace k := k.1 q
        refine wp_aload 2 dX10_date_37 rfl ?_
        refine wp_iload_n 0 dX10_date_39 rfl ?_
        have c4 := k.1
        replace k := k.2
        refine wp_callV (ci := 2) (y' := mX4_partBegin) (st := []) [jI a2] rfl rfl rfl fX4_partBegin kX10_173 nX4_partBegin dX10_date_40 (Nat.le_of_ble_eq_true rfl) c4 ?_
        refine jCall.mono k (fun o h40 k => ?_)
        obtain ⟨v40, e, k⟩ := k
        subst e
        show jWp (d + 6) mX10_date 43 [(2, jI a2), (3, jI a3), (4, jR v2)] [jI v40] h40 Q
        refine wp_istore [2, 3, 0] (ls' := [(3, jI a3), (4, jR v2), (5, jI v40)]) dX10_date_43 (by decide) rfl ?_
        refine wp_aload 1 dX10_date_45 rfl ?_
        have c5 := k.1
        replace k := k.2
        refine wp_callV (ci := 2) (y' := mX4_value) (st := []) [] rfl rfl rfl fX4_value kX10_146 nX4_value dX10_date_47 (Nat.le_of_ble_eq_true rfl) c5 ?_
        refine jCall.mono k (fun o h47 k => ?_)
        obtain ⟨v47, e, k⟩ := k
        subst e
        show jWp (d + 6) mX10_date 50 [(3, jI a3), (4, jR v2), (5, jI v40)] [jR v47] h47 Q
        refine wp_astore [1, 2, 3, 0] (ls' := [(3, jI a3), (4, jR v2), (5, jI v40), (6, jR v47)]) dX10_date_50 (by decide) rfl ?_
        refine wp_aload 3 dX10_date_52 rfl ?_
        refine wp_iload 2 dX10_date_54 rfl ?_
        have c6 := k.1
        replace k := k.2
        refine wp_callV (ci := 5) (y' := mX7_twoDigits) (st := []) [jI v40] rfl rfl rfl fX7_twoDigits kX10_197 nX7_twoDigits dX10_date_56 (Nat.le_of_ble_eq_true rfl) c6 ?_
        refine jCall.mono k (fun o h56 k => ?_)
        obtain ⟨v56, e, k⟩ := k
        subst e
        show jWp (d + 6) mX10_date 59 [(3, jI a3), (4, jR v2), (5, jI v40), (6, jR v47)] [jI v56] h56 Q
        refine wp_aload 1 dX10_date_59 rfl ?_
        have c7 := k.1
        replace k := k.2
        refine wp_callV (ci := 2) (y' := mX4_clockYear) (st := [jI v56]) [] rfl rfl rfl fX4_clockYear kX10_200 nX4_clockYear dX10_date_61 (Nat.le_of_ble_eq_true rfl) c7 ?_
        refine jCall.mono k (fun o h61 k => ?_)
        obtain ⟨v61, e, k⟩ := k
        subst e
        show jWp (d + 6) mX10_date 64 [(3, jI a3), (4, jR v2), (5, jI v40), (6, jR v47)] [jI v61, jI v56] h61 Q
        refine wp_callS (y' := mX3_yearMeant) (st := []) [jI v56, jI v61] rfl fX3_yearMeant kX10_202 nX3_yearMeant dX10_date_64 (Nat.le_of_ble_eq_true rfl) ?_
        refine jCall.mono k (fun o h64 k => ?_)
        obtain ⟨v64, e, k⟩ := k
        subst e
        show jWp (d + 6) mX10_date 67 [(3, jI a3), (4, jR v2), (5, jI v40), (6, jR v47)] [jI v64] h64 Q
        refine wp_istore [1, 3, 4, 0] (ls' := [(3, jI a3), (5, jI v40), (6, jR v47), (7, jI v64)]) dX10_date_67 (by decide) rfl ?_
        refine wp_aload 2 dX10_date_69 rfl ?_
        refine wp_iload 1 dX10_date_71 rfl ?_
        refine wp_iconst dX10_date_73 ⟨by decide, by decide⟩ ?_
        have c8 := k.1
        replace k := k.2
        refine wp_iadd dX10_date_74 c8 ?_
        have c9 := k.1
        replace k := k.2
        refine wp_callV (ci := 5) (y' := mX7_twoDigits) (st := []) [jI (v40 + 2)] rfl rfl rfl fX7_twoDigits kX10_197 nX7_twoDigits dX10_date_75 (Nat.le_of_ble_eq_true rfl) c9 ?_
        refine jCall.mono k (fun o h75 k => ?_)
        obtain ⟨v75, e, k⟩ := k
        subst e
        show jWp (d + 6) mX10_date 78 [(3, jI a3), (5, jI v40), (6, jR v47), (7, jI v64)] [jI v75] h75 Q
        refine wp_istore [1, 2, 3, 4, 0] (ls' := [(3, jI a3), (5, jI v40), (6, jR v47), (7, jI v64), (8, jI v75)]) dX10_date_78 (by decide) rfl ?_
        refine wp_aload 2 dX10_date_80 rfl ?_
        refine wp_iload 1 dX10_date_82 rfl ?_
        refine wp_iconst dX10_date_84 ⟨by decide, by decide⟩ ?_
        have c10 := k.1
        replace k := k.2
        refine wp_iadd dX10_date_85 c10 ?_
        have c11 := k.1
        replace k := k.2
        refine wp_callV (ci := 5) (y' := mX7_twoDigits) (st := []) [jI (v40 + 4)] rfl rfl rfl fX7_twoDigits kX10_197 nX7_twoDigits dX10_date_86 (Nat.le_of_ble_eq_true rfl) c11 ?_
        refine jCall.mono k (fun o h86 k => ?_)
        obtain ⟨v86, e, k⟩ := k
        subst e
        show jWp (d + 6) mX10_date 89 [(3, jI a3), (5, jI v40), (6, jR v47), (7, jI v64), (8, jI v75)] [jI v86] h86 Q
        refine wp_istore [1, 4, 5, 0] (ls' := [(3, jI a3), (7, jI v64), (8, jI v75), (9, jI v86)]) dX10_date_89 (by decide) rfl ?_
        refine wp_iload_n 0 dX10_date_91 rfl ?_
        refine wp_table dX10_date_92 144 rfl (fun q => ?_) (fun q q9 => ?_)
        · replace k := k.2.2.2 (by omega) (by omega) (by omega)
          refine wp_iconst dX10_date_144 ⟨by decide, by decide⟩ ?_
          exact wp_iret dX10_date_145 rfl k
        · have q8 : a3 = 0 ∨ a3 = 1 ∨ a3 = 2 := by omega
          rcases q8 with q8 | q8 | q8
          · refine ⟨28, 120, by rw [q8]; rfl, rfl, ?_⟩
            replace k := k.1 q8
            refine wp_iload 1 dX10_date_120 rfl ?_
            exact wp_iret dX10_date_122 rfl k
          · refine ⟨31, 123, by rw [q8]; rfl, rfl, ?_⟩
            replace k := k.2.1 q8
            refine wp_iload 2 dX10_date_123 rfl ?_
            exact wp_iret dX10_date_125 rfl k
          · refine ⟨34, 126, by rw [q8]; rfl, rfl, ?_⟩
            replace k := k.2.2.1 q8
            refine wp_iload 3 dX10_date_126 rfl ?_
            refine wp_if_ne 141 dX10_date_128 rfl (fun q => ?_) (fun q => ?_)
            · replace k := k.1 q
              refine wp_iload 3 dX10_date_141 rfl ?_
              exact wp_iret dX10_date_143 rfl k
            · replace k := k.2 q
              refine wp_iload 1 dX10_date_131 rfl ?_
              refine wp_iload 2 dX10_date_133 rfl ?_
              refine wp_callS (y' := mX3_lastDay) (st := []) [jI v64, jI v75] rfl fX3_lastDay kX10_208 nX3_lastDay dX10_date_135 (Nat.le_of_ble_eq_true rfl) ?_
              refine jCall.mono k (fun o h135 k => ?_)
              obtain ⟨v135, e, k⟩ := k
              subst e
              show jWp (d + 6) mX10_date 138 [(3, jI a3), (7, jI v64), (8, jI v75), (9, jI v86)] [jI v135] h135 Q
              refine wp_goto 143 dX10_date_138 rfl ?_
              exact wp_iret dX10_date_143 rfl k
      · replace k := k.2 q
        exact wp_throwN qX10_182 th_ns_ini (fun G s t => t.2.2.2.1) ns_at ns_good rfl dX10_date_27 dX10_date_30 dX10_date_31 dX10_date_33 dX10_date_36 (by decide) k
  · subst e
    exact ⟨k, rfl⟩
theorem bX10_print {d : Nat} {h : jH} {Q : jO → jH → Prop} {a0 : Nat} (k : jOK h → hK h a0 = 8 ∧ hK h (hR h 704 a0) = 6 ∧ jCall (d + 5) mX7_count [jR (hR h 704 a0)] h (fun o h4 => ∃ v4, o = .inl (some (jI v4)) ∧ ((v4 ≠ 0 → hK h4 a0 = 8 ∧ hK h4 (hR h4 702 a0) = 6 ∧ jCall (d + 5) mX7_clear [jR (hR h4 702 a0)] h4 (fun o h25 => o = .inl none ∧ hK h25 a0 = 8 ∧ jCall (d + 5) mX10_putSpaces [jR a0] h25 (fun o h29 => o = .inl none ∧ jWp (d + 6) mX10_print 34 [(0, jR a0), (1, jI 0)] [] h29 Q))) ∧ (v4 = 0 → Q (.inr "java/lang/IllegalStateException") (sN h4 16 0 6))))) : jCall (d + 6) mX10_print [jR a0] h Q := by
  refine jCall_of plX10 (Nat.le_of_ble_eq_true rfl) ?_
  show jWp (d + 6) mX10_print 0 [(0, jR a0)] [] h Q
  refine jw_ok (fun ok q => ?_)
  replace k := k ok 
  refine wp_aload_n 0 dX10_print_0 rfl ?_
  have c1 := k.1
  replace k := k.2
  refine wp_getR (ci := 7) (j := 4) rfl (by decide) gX10_27 dX10_print_1 c1 rfl ?_
  have c2 := k.1
  replace k := k.2
  refine wp_callV (ci := 5) (y' := mX7_count) (st := []) [] rfl rfl rfl fX7_count kX10_84 nX7_count dX10_print_4 (Nat.le_of_ble_eq_true rfl) c2 ?_
  refine jCall.mono k (fun o h4 k => ?_)
  obtain ⟨v4, e, k⟩ := k
  subst e
  show jWp (d + 6) mX10_print 7 [(0, jR a0)] [jI v4] h4 Q
  refine wp_if_ne 21 dX10_print_7 rfl (fun q => ?_) (fun q => ?_)
  · replace k := k.1 q
    refine wp_aload_n 0 dX10_print_21 rfl ?_
    have c3 := k.1
    replace k := k.2
    refine wp_getR (ci := 7) (j := 2) rfl (by decide) gX10_21 dX10_print_22 c3 rfl ?_
    have c4 := k.1
    replace k := k.2
    refine wp_callV (ci := 5) (y' := mX7_clear) (st := []) [] rfl rfl rfl fX7_clear kX10_106 nX7_clear dX10_print_25 (Nat.le_of_ble_eq_true rfl) c4 ?_
    refine jCall.mono k (fun o h25 k => ?_)
    obtain ⟨e, k⟩ := k
    subst e
    show jWp (d + 6) mX10_print 28 [(0, jR a0)] [] h25 Q
    refine wp_aload_n 0 dX10_print_28 rfl ?_
    have c5 := k.1
    replace k := k.2
    refine wp_callV (ci := 7) (y' := mX10_putSpaces) (st := []) [] rfl rfl rfl fX10_putSpaces kX10_259 nX10_putSpaces dX10_print_29 (Nat.le_of_ble_eq_true rfl) c5 ?_
    refine jCall.mono k (fun o h29 k => ?_)
    obtain ⟨e, k⟩ := k
    subst e
    show jWp (d + 6) mX10_print 32 [(0, jR a0)] [] h29 Q
    refine wp_iconst dX10_print_32 ⟨by decide, by decide⟩ ?_
    refine wp_istore_n [1, 0] (ls' := [(0, jR a0), (1, jI 0)]) dX10_print_33 (by decide) rfl ?_
    exact k
  · replace k := k.2 q
    exact wp_throwW (cls := "java/lang/IllegalStateException") th_is_fit thN_fit (by decide) qX10_254 th_is_ini (fun G s t => t.2.2.2.2.2) th_is_at th_is_good rfl dX10_print_10 dX10_print_13 dX10_print_14 dX10_print_17 dX10_print_20 (by decide) k
theorem bX10_print_34 {d : Nat} {h : jH} {Q : jO → jH → Prop} {a0 : Nat} {a1 : Int} (k : jOK h → j32 a1 → hK h a0 = 8 ∧ hK h (hR h 704 a0) = 6 ∧ jCall (d + 5) mX7_count [jR (hR h 704 a0)] h (fun o h39 => ∃ v39, o = .inl (some (jI v39)) ∧ ((v39 ≤ a1 → hK h39 a0 = 8 ∧ jCall (d + 5) mX10_putSpaces [jR a0] h39 (fun o h71 => o = .inl none ∧ hK h71 a0 = 8 ∧ hK h71 (hR h71 702 a0) = 6 ∧ jCall (d + 5) mX7_count [jR (hR h71 702 a0)] h71 (fun o h78 => ∃ v78, o = .inl (some (jI v78)) ∧ Q (.inl (some (jI v78))) h78))) ∧ (¬ (v39 ≤ a1) → hK h39 a0 = 8 ∧ hK h39 (hR h39 704 a0) = 6 ∧ jCall (d + 5) mX7_at [jR (hR h39 704 a0), jI a1] h39 (fun o h58 => ∃ v58, o = .inl (some (jI v58)) ∧ hK h58 (hR h39 710 a0) = 2 ∧ jCall (d + 5) mX1_put [jR (hR h39 710 a0), jR (hR h39 702 a0), jI v58] h58 (fun o h61 => o = .inl none ∧ j32 (a1 + 1) ∧ jWp (d + 6) mX10_print 34 [(0, jR a0), (1, jI (a1 + 1))] [] h61 Q)))))) : jWp (d + 6) mX10_print 34 [(0, jR a0), (1, jI a1)] [] h Q := by
  refine jw_ok (fun ok q => ?_)
  replace k := k ok (q _ (.tail _ (.head _)))
  refine wp_iload_n 1 dX10_print_34 rfl ?_
  refine wp_aload_n 0 dX10_print_35 rfl ?_
  have c1 := k.1
  replace k := k.2
  refine wp_getR (ci := 7) (j := 4) rfl (by decide) gX10_27 dX10_print_36 c1 rfl ?_
  have c2 := k.1
  replace k := k.2
  refine wp_callV (ci := 5) (y' := mX7_count) (st := [jI a1]) [] rfl rfl rfl fX7_count kX10_84 nX7_count dX10_print_39 (Nat.le_of_ble_eq_true rfl) c2 ?_
  refine jCall.mono k (fun o h39 k => ?_)
  obtain ⟨v39, e, k⟩ := k
  subst e
  show jWp (d + 6) mX10_print 42 [(0, jR a0), (1, jI a1)] [jI v39, jI a1] h39 Q
  refine wp_icmp_ge 70 dX10_print_42 rfl (fun q => ?_) (fun q => ?_)
  · replace k := k.1 q
    refine wp_aload_n 0 dX10_print_70 rfl ?_
    have c3 := k.1
    replace k := k.2
    refine wp_callV (ci := 7) (y' := mX10_putSpaces) (st := []) [] rfl rfl rfl fX10_putSpaces kX10_259 nX10_putSpaces dX10_print_71 (Nat.le_of_ble_eq_true rfl) c3 ?_
    refine jCall.mono k (fun o h71 k => ?_)
    obtain ⟨e, k⟩ := k
    subst e
    show jWp (d + 6) mX10_print 74 [(0, jR a0), (1, jI a1)] [] h71 Q
    refine wp_aload_n 0 dX10_print_74 rfl ?_
    have c4 := k.1
    replace k := k.2
    refine wp_getR (ci := 7) (j := 2) rfl (by decide) gX10_21 dX10_print_75 c4 rfl ?_
    have c5 := k.1
    replace k := k.2
    refine wp_callV (ci := 5) (y' := mX7_count) (st := []) [] rfl rfl rfl fX7_count kX10_84 nX7_count dX10_print_78 (Nat.le_of_ble_eq_true rfl) c5 ?_
    refine jCall.mono k (fun o h78 k => ?_)
    obtain ⟨v78, e, k⟩ := k
    subst e
    show jWp (d + 6) mX10_print 81 [(0, jR a0), (1, jI a1)] [jI v78] h78 Q
    exact wp_iret dX10_print_81 rfl k
  · replace k := k.2 q
    refine wp_aload_n 0 dX10_print_45 rfl ?_
    have c6 := k.1
    replace k := k.2
    refine wp_getR (ci := 7) (j := 10) rfl (by decide) gX10_61 dX10_print_46 c6 rfl ?_
    refine wp_aload_n 0 dX10_print_49 rfl ?_
    refine wp_getR (ci := 7) (j := 2) rfl (by decide) gX10_21 dX10_print_50 c6 rfl ?_
    refine wp_aload_n 0 dX10_print_53 rfl ?_
    refine wp_getR (ci := 7) (j := 4) rfl (by decide) gX10_27 dX10_print_54 c6 rfl ?_
    refine wp_iload_n 1 dX10_print_57 rfl ?_
    have c7 := k.1
    replace k := k.2
    refine wp_callV (ci := 5) (y' := mX7_at) (st := [jR (hR h39 702 a0), jR (hR h39 710 a0)]) [jI a1] rfl rfl rfl fX7_at kX10_170 nX7_at dX10_print_58 (Nat.le_of_ble_eq_true rfl) c7 ?_
    refine jCall.mono k (fun o h58 k => ?_)
    obtain ⟨v58, e, k⟩ := k
    subst e
    show jWp (d + 6) mX10_print 61 [(0, jR a0), (1, jI a1)] [jI v58, jR (hR h39 702 a0), jR (hR h39 710 a0)] h58 Q
    have c8 := k.1
    replace k := k.2
    refine wp_callV (ci := 1) (y' := mX1_put) (st := []) [jR (hR h39 702 a0), jI v58] rfl rfl rfl fX1_put kX10_262 nX1_put dX10_print_61 (Nat.le_of_ble_eq_true rfl) c8 ?_
    refine jCall.mono k (fun o h61 k => ?_)
    obtain ⟨e, k⟩ := k
    subst e
    show jWp (d + 6) mX10_print 64 [(0, jR a0), (1, jI a1)] [] h61 Q
    have c9 := k.1
    replace k := k.2
    refine wp_iinc 1 [1, 0] (ls' := [(0, jR a0), (1, jI (a1 + 1))]) dX10_print_64 rfl c9 ⟨by decide, by decide⟩ (by decide) rfl ?_
    refine wp_goto 34 dX10_print_67 rfl ?_
    exact k
