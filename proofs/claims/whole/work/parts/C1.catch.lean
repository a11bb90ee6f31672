/-! CAUGHT -/
section CT
/-- one row of a table, its class linked: it takes the object, or the search goes on -/
theorem jc_row {Q : Handler → Pre} {E : CtlPost} {e : Env} {d : Bool} {acts : List Action} {u : State} {f : JFrame} {q : Addr} {x : ExceptionTableEntry} {t : List ExceptionTableEntry} {k : ClassId} {ce : Cell}
    (hx : covers x f.pc = true) (h0 : x.catchType ≠ 0) (hl : u.vm.ClassLinks e.platform f.method.cls x.catchType k) (hq : u.heap[q]? = some ce) (hv : ce.vm = .none) (h1 : ∃ z, u.vm.classes[ce.cls]? = some z) :
    wp (findHandler.go f q (x :: t)) Q E e d acts u ↔ (if u.vm.assignable ce.cls k = true then Q (.found x.handlerPc) d acts (u.setVm (u.vm.noted f.method.cls x.catchType (.cls k))) else wp (findHandler.go f q t) Q E e d acts (u.setVm (u.vm.noted f.method.cls x.catchType (.cls k)))) := by
  obtain ⟨z1, hz1⟩ := h1
  obtain ⟨-, -, -, z2, -, -, -, -, -, hz2, -, -⟩ := hl.here
  obtain ⟨g1, g2⟩ := (resolveClass_links e.toSetting hl).op (op := VmOp.resolveClass f.method.cls x.catchType) rfl
  have al := (Vm.Alike.refl u.vm).noted f.method.cls x.catchType (.cls k)
  obtain ⟨y1, hy1, -⟩ := al.2.2 _ _ hz1
  obtain ⟨y2, hy2, -⟩ := al.2.2 _ _ hz2
  have ha : (u.vm.noted f.method.cls x.catchType (.cls k)).assignable ce.cls k = u.vm.assignable ce.cls k := by rw [al.assignable]
  simp only [covers] at hx
  cases hfit : u.vm.assignable ce.cls k <;> rw [hfit] at ha <;> simp [findHandler.go, hx, h0, g1, g2, hq, hv, hy1, hy2, ha, VmOp.dirties, VmOp.acts]
/-- the search down a table, by what is known of the start -/
theorem jc_seek {e : Env} {s : State} {f : JFrame} {q : Addr} {ce : Cell} (hv : ce.vm = .none) (h1 : ∃ z, s.vm.classes[ce.cls]? = some z) {x : ExceptionTableEntry} {k : ClassId} {suf : List ExceptionTableEntry}
    (hx : covers x f.pc = true) (h0 : x.catchType ≠ 0) (hl : s.vm.ClassLinks e.platform f.method.cls x.catchType k) (hfit : s.vm.assignable ce.cls k = true) :
    ∀ (pre : List ExceptionTableEntry) (u : State), s.WarmedH u.vm → u.heap[q]? = some ce → (∀ z ∈ pre, covers z f.pc = false ∨ (z.catchType ≠ 0 ∧ ∃ k', s.vm.ClassLinks e.platform f.method.cls z.catchType k' ∧ s.vm.assignable ce.cls k' = false)) →
      ∃ vm', s.WarmedH vm' ∧ ∀ (Q : Handler → Pre) (E : CtlPost) (d : Bool) (acts : List Action), wp (findHandler.go f q (pre ++ x :: suf)) Q E e d acts u ↔ Q (.found x.handlerPc) d acts (u.setVm vm') := by
  have lk : ∀ (u : State), s.WarmedH u.vm → (∃ z, u.vm.classes[ce.cls]? = some z) := fun u hW => by
    obtain ⟨z, hz⟩ := h1
    obtain ⟨z', hz', -⟩ := hW.alike.2.2 _ _ hz
    exact ⟨z', hz'⟩
  have nt : ∀ (u : State) (i k' : Nat), s.WarmedH u.vm → s.vm.ClassLinks e.platform f.method.cls i k' → s.WarmedH (u.vm.noted f.method.cls i (.cls k')) := fun u i k' hW hl' => by
    obtain ⟨_, _, _, _, hd, _, _, _, _, _, _, ho⟩ := hl'.here
    exact hW.noted hd ho (State.rightAt_cls hl')
  intro pre
  induction pre with
  | nil =>
    intro u hW hq _
    refine ⟨_, nt u _ _ hW hl, fun Q E d acts => ?_⟩
    rw [List.nil_append, jc_row hx h0 (hW.classLinks hl) hq hv (lk u hW), if_pos (by rw [hW.alike.assignable]; exact hfit)]
  | cons z t ih =>
    intro u hW hq hp
    have hp' := fun y hy => hp y (List.mem_cons_of_mem _ hy)
    cases hz : covers z f.pc with
    | false =>
      obtain ⟨vm', a, b⟩ := ih u hW hq hp'
      refine ⟨vm', a, fun Q E d acts => ?_⟩
      rw [List.cons_append, Jvm.W.findHandler_go_skip hz]
      exact b Q E d acts
    | true =>
      rcases hp z (List.mem_cons_self ..) with h | ⟨z0, k', zl, zn⟩
      · rw [h] at hz
        cases hz
      · obtain ⟨vm', a, b⟩ := ih (u.setVm (u.vm.noted f.method.cls z.catchType (.cls k'))) (nt u _ _ hW zl) hq hp'
        refine ⟨vm', a, fun Q E d acts => ?_⟩
        rw [List.cons_append, jc_row hz z0 (hW.classLinks zl) hq hv (lk u hW), if_neg (by rw [hW.alike.assignable, zn]; decide)]
        exact b Q E d acts
/-- the step of the machine into the handler that the search found -/
theorem jc_step {tb : Tables} {e : Env} {u : State} {g : JFrame} {c : Code} {below : List Frame} {q : Addr} {pc : Nat} {vm' : Vm} (h : At u g.method c below)
    (hf : ∀ (Q : Handler → Pre) (E : CtlPost) (d : Bool) (acts : List Action), wp (findHandler g q) Q E e d acts ((u.setTop g).pushFrame (.throwing q)) ↔ Q (.found pc) d acts (((u.setTop g).pushFrame (.throwing q)).setVm vm')) :
    Steps tb e below ((u.setTop g).pushFrame (.throwing q)) ((u.setVm vm').setTop { g with pc := pc, stack := [.ref q] }) := by
  obtain ⟨a, b⟩ := h.throwing q
  obtain ⟨g0, hg⟩ := Option.isSome_iff_exists.mp h.top
  obtain ⟨r, hr⟩ := State.topJava?_eq_some.mp hg
  have hr2 : (u.setVm vm').frames = .java g0 :: r := hr
  have key : (stepThrowing e ((u.setTop g).pushFrame (.throwing q)) q (.java g :: u.frames.tail)).1 = (u.setVm vm').setTop { g with pc := pc, stack := [.ref q] } := by
    simp only [stepThrowing, searchFrame, vmDo]
    generalize hres : Sem.go _ e false [] _ = res
    obtain ⟨as, rfl, -⟩ := Sem.eq_ok_of hres (a := Handler.found pc) (s' := ((u.setTop g).pushFrame (.throwing q)).setVm vm') (acts' := []) (by simp [hf _ _ _ _])
    rw [State.setTop_of_frames _ hr2, State.pushFrame, State.setTop_of_frames _ hr, hr, List.tail_cons]
    show ((((u.setFrames _).setFrames _).setVm vm').setFrames _) = _
    rw [State.setFrames_setFrames]
    show (((u.setVm vm').setFrames _).setFrames _) = _
    rw [State.setFrames_setFrames]
  refine Steps.head a b ?_
  rw [stepThread_throwing (frames_entered h.top _), key]
  exact Steps.refl _
theorem jc_catch {p : Program} {l : Launch} {e : Env} {R : Room} {s : State} {m : MethodId} {args : Array Value} {below : List Frame} {meth : Method} {c : Code} {H : Heap} {locs : List Loc} {cells slots : Nat} {Z : State → Prop} {pc : Nat} {ls : Array Slot} {rest : List Value}
    {own name : String} {E : String} {ce : Cell} {q : Addr} (hown : s.vm.findClass own = some m.cls) (pre : List ExceptionTableEntry) (x : ExceptionTableEntry) (suf : List ExceptionTableEntry) (hsplit : c.exceptionTable.toList = pre ++ x :: suf)
    (hpass : ∀ z ∈ pre, covers z pc = false ∨ (z.catchType ≠ 0 ∧ ∃ nm : String, (Cond.classLink own z.catchType nm).before args s = true ∧ va_Nc E nm s)) (hx : covers x pc = true) (h0 : x.catchType ≠ 0)
    (hlink : (Cond.classLink own x.catchType name).before args s = true) (hcast : (Cond.castable E name).before args s = true) (hcell : H[q]? = some ce) (hv : ce.vm = .none) (hcl : s.vm.findClass E = some ce.cls)
    (kk : W p l e R s m args below meth c H locs cells slots Z (F0 m x.handlerPc ls [.ref q])) : vx_W p l e R s m args below meth c H locs cells slots Z (F0 m pc ls rest) q := by
  intro T hT X
  have hpl : e.platform.magicAccessors = ({} : Platform).magicAccessors := by rw [X.admits.platform]
  obtain ⟨c3, c4, hc3, hc4, hasg⟩ := Cond.castable_spec hcast
  cases Option.some.inj (hc3.symm.trans hcl)
  obtain ⟨c5, hc5, hcl5⟩ := Cond.classLink_spec hown hlink e.platform hpl
  cases Option.some.inj (hc4.symm.trans hc5)
  have hq : T.heap[q]? = some ce := by rw [hT]; exact hcell
  obtain ⟨vm', hW', hf⟩ := jc_seek (e := e) (s := s) (f := F0 m pc ls rest) (q := q) (ce := ce) (k := c4) (suf := suf) hv (by obtain ⟨k9, h9, -⟩ := Vm.findClass_spec hcl; exact ⟨k9, h9⟩) hx h0 hcl5 hasg pre ((T.setTop (F0 m pc ls rest)).pushFrame (.throwing q)) (by rw [Stand.throwing_vm]; exact X.warmed) (by rw [Stand.throwing_heap]; exact hq)
    (fun z hz => by
      rcases hpass z hz with h | ⟨hz0, nm, hl1, hn1⟩
      · exact Or.inl h
      · obtain ⟨c6, hc6, hcl6⟩ := Cond.classLink_spec hown hl1 e.platform hpl
        obtain ⟨a8, b8, h1, h2, h3⟩ := hn1
        cases Option.some.inj (h1.symm.trans hcl)
        cases Option.some.inj (h2.symm.trans hc6)
        exact Or.inr ⟨hz0, _, hcl6, h3⟩)
  have X' := X.noted hW'
  have st : Steps p.tables e below ((T.setTop (F0 m pc ls rest)).pushFrame (.throwing q)) ((T.setVm vm').setTop { F0 m pc ls rest with pc := x.handlerPc, stack := [.ref q] }) := jc_step (c := c) X.here fun Q E d acts => by
    rw [Jvm.W.findHandler_eq (meth := meth) (code := c) (by rw [Stand.throwing_vm]; exact X.method') X.code, hsplit]
    exact hf Q E d acts
  obtain ⟨t, a1, b1⟩ := kk (T.setVm vm') hT X'
  exact ⟨t, st.trans a1, b1⟩
def jfil (ls : List (Nat × jV)) (i : Nat) : List (Nat × jV) := ls.filter (fun q => !(q.1 == i) && !(q.1 + 1 == i && j_cat q.2 == 2))
theorem jfil_map (G : jG) (ls : List (Nat × jV)) (i : Nat) : (ls.map (j_tl G)).filter (fun q => !(q.1 == i) && !(q.1 + 1 == i && q.2.category == 2)) = (jfil ls i).map (j_tl G) := by
  simp only [jfil, List.filter_map]
  congr 1
  refine List.filter_congr fun q _ => ?_
  simp only [Function.comp, j_tl, j_cat_tr]
/-- behind a call in a method with handlers: it came back, or a handler took what it threw -/
def jAfC (d : Nat) (y : jM) (pc : Nat) (ls : List (Nat × jV)) (st : List jV) (Q : jO → jH → Prop) : jO → jH → Prop := fun o h' => match o with
  | .inl v => jWp d y (pc + 3) ls (v.toList ++ st) h' Q
  | .inr E => ∃ (pre : List ExceptionTableEntry) (x : ExceptionTableEntry) (suf : List ExceptionTableEntry) (name : String) (i len : Nat), tableOf y.2.2.2.2 = pre ++ x :: suf ∧ (∀ z ∈ pre, covers z pc = false ∨ (z.catchType ≠ 0 ∧ ∃ nm : String, Cond.classLink y.1.cls z.catchType nm ∈ jW ∧ ∀ G s, jlo G s s.heap → va_Nc E nm s)) ∧ covers x pc = true ∧ x.catchType ≠ 0 ∧ Cond.classLink y.1.cls x.catchType name ∈ jW ∧ Cond.castable E name ∈ jW ∧ ((decode y.2.1 x.handlerPc = .ok (.astore i, 2) ∧ len = 2) ∨ (∃ f : Fin 4, decode y.2.1 x.handlerPc = .ok (.astore_n f, 1) ∧ (f : Nat) = i ∧ len = 1)) ∧ i < y.2.2.1 ∧ jWp d y (x.handlerPc + len) (jfil ls i) [] h' Q
theorem jcallC {d : Nat} {y : jM} {pc : Nat} {ls : List (Nat × jV)} {st st0 : List jV} {h h1 : jH} {o1 : jO} {Q : jO → jH → Prop} (ok : jOK h) (hls : ∀ q ∈ ls, j_rg q.2) (hst : ∀ v ∈ st, j_rg v)
    (hq : jAfC d y pc ls st Q o1 h1) (ok1 : jOK h1) (rg1 : j_rgO o1) (m1 : hS h ≤ hS h1) (m2 : hT h ≤ hT h1)
    (run : ∀ (p : Program) (l : Launch) (e : Env) (R : Room) (s : State) (m : MethodId) (args : Array Value) (below : List Frame) (meth : Method) (c : Code) (G : jG) (H : Heap) (locs : List Loc) (cells slots : Nat) (lsl : Array Slot),
      jCx p l s m args meth c y G → d ≤ R.frames → 40 * d ≤ R.locals → cells + (hS h1 - hS h) ≤ R.cells → slots + (hT h1 - hT h) ≤ R.slots → lv_has lsl y.2.2.1 (ls.map (j_tl G)) → jhr G h H → va_S (jbA G) s.heap H locs →
      ∃ a : Array Value, vx_Run p l e R s m args below meth c H locs cells slots (hS h1 - hS h) (hT h1 - hT h) (F0 m pc lsl (st0.map (j_tr G))) (st.map (j_tr G)) (jQc G o1 h1 a) (jXC G o1 h1) (jbA G)) :
    ∃ o h', Q o h' ∧ jOK h' ∧ j_rgO o ∧ hS h ≤ hS h' ∧ hT h ≤ hT h' ∧ jGoes d y pc ls st0 h o h' := by
  cases o1 with
  | inl v => exact jcall (o1 := .inl v) ok hls hst hq ok1 rg1 m1 m2 run
  | inr E =>
    obtain ⟨pre, x, suf, name, i, len, hsplit, hpass, hcov, hct, hlink, hcast, hdec, hi, hk⟩ := hq
    obtain ⟨o, h', g1, g2, g3, g4, g5, K⟩ := hk ok1 (fun q hq => hls q (List.mem_filter.mp hq).1) (fun v hv => nomatch hv)
    refine ⟨o, h', g1, g2, g3, Nat.le_trans m1 g4, Nat.le_trans m2 g5, fun p l e R s m args below meth c G S0 T0 C f1 f2 f3 f4 f5 f6 H locs lsl hle hh hS9 => ?_⟩
    intro T hT9 X
    obtain ⟨a, run1⟩ := run p l e R s m args below meth c G H locs (hS h - S0) (hT h - T0) lsl C f1 f2 (by omega) (by omega) hle hh hS9
    rcases run1 T hT9 X with ⟨w, st₀, t, T', L, h0, X', hL, e1, e2, ⟨v', hov, -⟩, -⟩ | ⟨q, st₀, t, T', L, E', ce, h0, X', hL, e1, e2, ⟨hoE, hhr, hF⟩, hce, hcv, hcl, sst⟩
    · cases hov
    · cases hoE
      obtain ⟨k1, k2, k3⟩ := vx_keep h0 e1 hS9 (fun _ _ h => h) (fun _ h => h) hL hF
      have C' := C
      obtain ⟨c1, c2, c3, c4, c5, c6, c7, c8, c9, c10, c11⟩ := C
      have X2 : Stand p l e R s m args below meth c T' (locs ++ L) (hS h1 - S0) (hT h1 - T0) := by
        rw [show hS h1 - S0 = hS h - S0 + (hS h1 - hS h) by omega, show hT h1 - T0 = hT h - T0 + (hT h1 - hT h) by omega]
        exact X'
      have kk2 : ∀ lsl' : Array Slot, lv_has lsl' y.2.2.1 ((i, Value.ref q) :: (jfil ls i).map (j_tl G)) → W p l e R s m args below meth c T'.heap (locs ++ L) (hS h1 - S0) (hT h1 - T0) (vx_MQ below (jQc G o h') (jXC G o h') args s (hS h' - S0) (hT h' - T0) (jbA G)) (F0 m (x.handlerPc + len) lsl' []) := fun lsl' hl' =>
        K p l e R s m args below meth c G S0 T0 C' f1 f2 (by omega) (by omega) f5 f6 T'.heap (locs ++ L) lsl' ⟨hl'.1, hl'.2.1, fun z hz => hl'.2.2 z (List.mem_cons_of_mem _ hz)⟩ (by rw [e1]; exact hhr) k3
      have e3 : (i, Value.ref q) :: (ls.map (j_tl G)).filter (fun q => !(q.1 == i) && !(q.1 + 1 == i && q.2.category == 2)) = (i, Value.ref q) :: (jfil ls i).map (j_tl G) := by rw [jfil_map]
      have kk : W p l e R s m args below meth c T'.heap (locs ++ L) (hS h1 - S0) (hT h1 - T0) (vx_MQ below (jQc G o h') (jXC G o h') args s (hS h' - S0) (hT h' - T0) (jbA G)) (F0 m x.handlerPc lsl [.ref q]) := by
        rcases hdec with ⟨hd, rfl⟩ | ⟨f, hd, rfl, rfl⟩
        · exact lv_astore c1 c2 hd hle hi e3 kk2
        · exact lv_astore_n c1 c2 hd rfl hle hi e3 kk2
      have key := jc_catch (rest := st.map (j_tr G)) c6 pre x suf (c9.trans hsplit) (fun z hz => (hpass z hz).elim Or.inl (fun ⟨z0, nm, z1, z2⟩ => Or.inr ⟨z0, nm, c8 _ z1, z2 G s c11⟩)) hcov hct (c8 _ hlink) (c8 _ hcast) (by rw [e1]; exact hce) hcv hcl kk
      obtain ⟨t2, a1, b1⟩ := key T' rfl X2
      exact ⟨t2, sst.trans a1, b1⟩
theorem wp_callC {d : Nat} {y : jM} {pc : Nat} {ls : List (Nat × jV)} {st : List jV} {h : jH} {Q : jO → jH → Prop} {y' : jM} {b ci idx : Nat} {r : vw_C} (av : List jV) {st0 : List jV} (hs0 : st0 = av.reverse ++ jR b :: st) (hc : vwCl[ci]? = some r) (hcl : y'.1.cls = r.1) (F : jcv y') (hl : Cond.methodLink y.1.cls idx y'.1 ∈ jW) (hn : (parseMethodDescriptor y'.1.desc).map (fun d => d.parameters.length) = some av.length) (hd : decode y.2.1 pc = .ok (.invokevirtual idx, 3)) (hst : (st.map j_cat).sum ≤ 8) (hk : hK h b = ci + 1)
    (k : jCall d y' (jR b :: av) h (jAfC (d + 1) y pc ls st Q)) : jWp (d + 1) y pc ls st0 h Q := by
  intro ok h2 h3
  subst hs0
  obtain ⟨o1, h1, hq, ok1, rg1, m1, m2, M⟩ := k ok (fun v hv => by
    rcases List.mem_cons.mp hv with e | e
    · rw [e]; trivial
    · exact h3 v (List.mem_append_left _ (List.mem_reverse.mpr e)))
  have hci := j_ci hc
  have b0 : b ≠ 0 := by have := (ok.2.2.1 b (by omega) (by omega)).1; omega
  refine jcallC ok h2 (fun v hv => h3 v (List.mem_append_right _ (List.mem_cons_of_mem _ hv))) hq ok1 rg1 m1 m2 (fun p l e R s m args below meth c G H locs cells slots lsl C f1 f2 f3 f4 hle hh hS9 => ?_)
  have cb := jCallB (mc := hS h1 - hS h) (ms := hT h1 - hT h) C f1 f2 F.1 F.2.2.2 hl hn
  have C' := C
  obtain ⟨c1, c2, c3, c4, c5, c6, c7, c8, c9, c10, c11⟩ := C
  have hob := hh.2.1 b r (by omega) (by omega) (by rw [hk]; exact hc)
  rw [hk, Nat.add_sub_cancel] at hob
  obtain ⟨cell, q1, q2, q3, q4⟩ := hob
  have hpre := jPc_pre (av := jR b :: av) hh c11 hS9
  have e1 : (jR b :: av).map (j_tr G) = Value.ref (j_ad G b) :: av.map (j_tr G) := by
    show j_rv G b :: _ = _
    rw [j_rd1 G b0]
  rw [e1] at hpre
  refine ⟨(Value.ref (j_ad G b) :: av.map (j_tr G)).toArray, vx_runV (own := y.1.cls) (C := y'.1.cls) (index := idx) (As := av.map (j_tr G)) (b := j_ad G b) ⟨c1, c2, c3, c6, c8⟩ (M l G c10) ⟨cb, c8 _ F.2.1, c8 _ F.2.2.1⟩ ⟨jPc_blind, ⟨cell, q1, by rw [q3]; rfl, ?_⟩, hpre⟩ rfl (by rw [List.length_map]) hle.1 ?_ (j_hW (y := y) hst) hd ⟨f3, f4⟩⟩
  · rw [q2, hcl]
    exact (c11.1.1 ci _ hc).2.1
  · show (av.reverse ++ jR b :: st).map (j_tr G) = _
    rw [List.map_append, List.map_reverse]
    congr 1
    show j_rv G b :: _ = _
    rw [j_rd1 G b0]
end CT
