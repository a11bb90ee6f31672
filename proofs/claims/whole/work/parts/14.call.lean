/-! CALLS -/
/-- behind a call: it came back, or threw -/
def jAft (d : Nat) (y : jM) (pc : Nat) (ls : List (Nat × jV)) (st : List jV) (Q : jO → jH → Prop) : jO → jH → Prop := fun o h' => match o with
  | .inl v => jWp d y (pc + 3) ls (v.toList ++ st) h' Q
  | .inr E => Q (.inr E) h' ∧ y.2.2.2.2 = []
theorem jPc_blind {G : jG} {av : List jV} {h : jH} : FrameBlind (jPc G av h) := by
  intro a U g mk q
  obtain ⟨q1, q2, q3⟩ := q
  exact ⟨q1, q2, jlo.push (s := U) (U := U.calling g mk a) (H := U.heap) (State.WarmedH.refl U) q3 (Nat.le_refl _) (fun _ _ _ => rfl)⟩
theorem jPc_pre {G : jG} {av : List jV} {h : jH} {s : State} {H : Heap} {locs : List Loc} (hh : jhr G h H) (hlo : jlo G s s.heap) (hS : va_S (jbA G) s.heap H locs) : ∀ U : State, U.heap = H → s.WarmedH U.vm → jPc G av h (av.map (j_tr G)).toArray U := by
  intro U hU hW
  refine ⟨rfl, by rw [hU]; exact hh, ?_⟩
  rw [hU]
  exact jlo.push hW hlo hS.1 hS.2.1
theorem jcall {d : Nat} {y : jM} {pc : Nat} {ls : List (Nat × jV)} {st st0 : List jV} {h h1 : jH} {o1 : jO} {Q : jO → jH → Prop} (ok : jOK h) (hls : ∀ q ∈ ls, j_rg q.2) (hst : ∀ v ∈ st, j_rg v)
    (hq : jAft d y pc ls st Q o1 h1) (ok1 : jOK h1) (rg1 : j_rgO o1) (m1 : hS h ≤ hS h1) (m2 : hT h ≤ hT h1)
    (run : ∀ (p : Program) (l : Launch) (e : Env) (R : Room) (s : State) (m : MethodId) (args : Array Value) (below : List Frame) (meth : Method) (c : Code) (G : jG) (H : Heap) (locs : List Loc) (cells slots : Nat) (lsl : Array Slot),
      jCx p l s m args meth c y G → d ≤ R.frames → 40 * d ≤ R.locals → cells + (hS h1 - hS h) ≤ R.cells → slots + (hT h1 - hT h) ≤ R.slots → lv_has lsl y.2.2.1 (ls.map (j_tl G)) → jhr G h H → va_S (jbA G) s.heap H locs →
      ∃ a : Array Value, vx_Run p l e R s m args below meth c H locs cells slots (hS h1 - hS h) (hT h1 - hT h) (F0 m pc lsl (st0.map (j_tr G))) (st.map (j_tr G)) (jQc G o1 h1 a) (jXC G o1 h1) (jbA G)) :
    ∃ o h', Q o h' ∧ jOK h' ∧ j_rgO o ∧ hS h ≤ hS h' ∧ hT h ≤ hT h' ∧ jGoes d y pc ls st0 h o h' := by
  cases o1 with
  | inl v =>
    have hv : ∀ w ∈ v.toList ++ st, j_rg w := by
      intro w hw
      rcases List.mem_append.mp hw with h9 | h9
      · cases v with
        | none => cases h9
        | some v => simp at h9; subst h9; exact rg1
      · exact hst w h9
    obtain ⟨o, h', g1, g2, g3, g4, g5, K⟩ := hq ok1 hls hv
    refine ⟨o, h', g1, g2, g3, Nat.le_trans m1 g4, Nat.le_trans m2 g5, fun p l e R s m args below meth c G S0 T0 C f1 f2 f3 f4 f5 f6 H locs lsl hle hh hS9 => ?_⟩
    intro T hT9 X
    obtain ⟨a, run1⟩ := run p l e R s m args below meth c G H locs (hS h - S0) (hT h - T0) lsl C f1 f2 (by omega) (by omega) hle hh hS9
    rcases run1 T hT9 X with ⟨w, st₀, t, T', L, h0, X', hL, e1, e2, ⟨v', hov, hw, hhr, hF⟩, sst⟩ | ⟨q, st₀, t, T', L, E, ce, h0, X', hL, e1, e2, ⟨hoE, -⟩, -⟩
    · cases hov
      cases hw
      obtain ⟨k1, k2, k3⟩ := vx_keep h0 e1 hS9 (fun _ _ h => h) (fun _ h => h) hL hF
      have X2 : Stand p l e R s m args below meth c T' (locs ++ L) (hS h1 - S0) (hT h1 - T0) := by
        rw [show hS h1 - S0 = hS h - S0 + (hS h1 - hS h) by omega, show hT h1 - T0 = hT h - T0 + (hT h1 - hT h) by omega]
        exact X'
      obtain ⟨t2, a1, b1⟩ := K p l e R s m args below meth c G S0 T0 C f1 f2 (by omega) (by omega) f5 f6 T'.heap (locs ++ L) lsl hle (by rw [e1]; exact hhr) k3 T' rfl X2
      refine ⟨t2, sst t2 ?_, b1⟩
      have e3 : (Option.map (j_tr G) v).toList ++ st.map (j_tr G) = (v.toList ++ st).map (j_tr G) := by cases v <;> rfl
      rw [e3]
      exact a1
    · cases hoE
  | inr E =>
    obtain ⟨hq, hh0⟩ := hq
    refine ⟨.inr E, h1, hq, ok1, trivial, m1, m2, fun p l e R s m args below meth c G S0 T0 C f1 f2 f3 f4 f5 f6 H locs lsl hle hh hS9 => ?_⟩
    intro T hT9 X
    obtain ⟨a, run1⟩ := run p l e R s m args below meth c G H locs (hS h - S0) (hT h - T0) lsl C f1 f2 (by omega) (by omega) hle hh hS9
    rcases run1 T hT9 X with ⟨w, st₀, t, T', L, h0, X', hL, e1, e2, ⟨v', hov, -⟩, -⟩ | ⟨q, st₀, t, T', L, E', ce, h0, X', hL, e1, e2, ⟨hoE, hhr, hF⟩, hce, hcv, hcl, sst⟩
    · cases hov
    · cases hoE
      obtain ⟨k1, k2, k3⟩ := vx_keep h0 e1 hS9 (fun _ _ h => h) (fun _ h => h) hL hF
      obtain ⟨c1, c2, c3, c4, c5, c6, c7, c8, c9, c10, c11⟩ := C
      have key : vx_W p l e R s m args below meth c T'.heap (locs ++ L) (hS h - S0 + (hS h1 - hS h)) (hT h - T0 + (hT h1 - hT h)) (vx_MQ below (jQc G (.inr E) h1) (jXC G (.inr E) h1) args s (hS h1 - S0) (hT h1 - T0) (jbA G)) (F0 m pc lsl (st.map (j_tr G))) q :=
        vx_out (fun x hx => by rw [c9, hh0] at hx; cases hx) c5 (by rw [e1]; exact hce) hcv hcl (fun t9 ht9 _ => ⟨rfl, by rw [ht9, e1]; exact hhr, k3.F ht9⟩) k3.2.2 (by omega) (by omega)
      obtain ⟨t2, a1, b1⟩ := key T' rfl X'
      exact ⟨t2, sst.trans a1, b1⟩
/-- what the tables say of a method that is called -/
def jcm (y' : jM) : Prop := jhd y' ∈ jW ∧ Cond.initialized y'.1.cls ∈ jW ∧ (y'.1.cls ≠ "java/lang/invoke/MethodHandle" ∧ y'.1.cls ≠ "java/lang/invoke/VarHandle") ∧ y'.2.2.1 ≤ 21
def jcv (y' : jM) : Prop := jcm y' ∧ Cond.instanceMethod y'.1 ∈ jW ∧ Cond.selects y'.1.cls y'.1 y'.1 ∈ jW ∧ y'.2.2.2.2 = []
def jci (y' : jM) : Prop := jcm y' ∧ Cond.instanceMethod y'.1 ∈ jW ∧ y'.1.name = "<init>" ∧ y'.2.2.2.1 = none ∧ y'.2.2.2.2 = []
def jcs (y' : jM) : Prop := jcm y' ∧ Cond.static y'.1 ∈ jW
theorem jWs_all {y' : jM} (h : jhd y' ∈ jW) : ∀ w ∈ jhd y' :: jW, w ∈ jW := List.forall_mem_cons.mpr ⟨h, fun _ h => h⟩
theorem j_hW {y : jM} {pc : Nat} {ls : Array Slot} {st st0 : List jV} {m : MethodId} {G : jG} (h : (st.map j_cat).sum ≤ 8) : 2 * (F0 m pc ls (st0.map (j_tr G))).monitorRoom + ((st.map (j_tr G)).map fun v => v.category).sum ≤ 8 := by
  refine lv_room ?_
  rw [List.map_map, show ((fun v => v.category) ∘ j_tr G) = j_cat from funext (j_cat_tr G)]
  exact h
section CP
variable {d : Nat} {y : jM} {pc : Nat} {ls : List (Nat × jV)} {st : List jV} {h : jH} {Q : jO → jH → Prop}
theorem jCallB {p : Program} {l : Launch} {R : Room} {s : State} {m : MethodId} {args : Array Value} {meth : Method} {c : Code} {G : jG} {y' : jM} {idx n mc ms : Nat} (C : jCx p l s m args meth c y G) (f1 : d + 1 ≤ R.frames) (f2 : 40 * (d + 1) ≤ R.locals) (F : jcm y') (hh : y'.2.2.2.2 = []) (hl : Cond.methodLink y.1.cls idx y'.1 ∈ jW) (hn : (parseMethodDescriptor y'.1.desc).map (fun d => d.parameters.length) = some n) :
    CallB R s args y.1.cls idx y'.1 y'.2.1 y'.2.2.1 y'.2.2.2.1 (jhd y' :: jW) (jrm d mc ms) mc ms n := by
  obtain ⟨c1, c2, c3, c4, c5, c6, c7, c8, c9, c10, c11⟩ := C
  obtain ⟨g1, g2, g3, g4⟩ := F
  have hd : jhd y' = Cond.code y'.1 y'.2.1 y'.2.2.1 y'.2.2.2.1 := if_pos hh
  refine ⟨rfl, rfl, f1, ?_, fun w hw a' U hW => jword (jW_all (jWs_all g1 w hw)) (c8 _ (jWs_all g1 w hw)) hW, ?_, ?_, c8 _ g2, g3, fun sig hs => ?_, c8 _ hl⟩
  · show 8 + (_ + 11) + 40 * d ≤ _
    omega
  · rw [← hd]; exact List.mem_cons_self
  · rw [← hd]; exact c8 _ g1
  · rw [hs] at hn
    exact (Option.some.inj hn).symm
theorem wp_callV {y' : jM} {b ci idx : Nat} {r : vw_C} (av : List jV) {st0 : List jV} (hs0 : st0 = av.reverse ++ jR b :: st) (hc : vwCl[ci]? = some r) (hcl : y'.1.cls = r.1) (F : jcv y') (hl : Cond.methodLink y.1.cls idx y'.1 ∈ jW) (hn : (parseMethodDescriptor y'.1.desc).map (fun d => d.parameters.length) = some av.length) (hd : decode y.2.1 pc = .ok (.invokevirtual idx, 3)) (hst : (st.map j_cat).sum ≤ 8) (hk : hK h b = ci + 1)
    (k : jCall d y' (jR b :: av) h (jAft (d + 1) y pc ls st Q)) : jWp (d + 1) y pc ls st0 h Q := by
  intro ok h2 h3
  subst hs0
  obtain ⟨o1, h1, hq, ok1, rg1, m1, m2, M⟩ := k ok (fun v hv => by
    rcases List.mem_cons.mp hv with e | e
    · rw [e]; trivial
    · exact h3 v (List.mem_append_left _ (List.mem_reverse.mpr e)))
  have hci := j_ci hc
  have b0 : b ≠ 0 := by have := (ok.2.2.1 b (by omega) (by omega)).1; omega
  refine jcall ok h2 (fun v hv => h3 v (List.mem_append_right _ (List.mem_cons_of_mem _ hv))) hq ok1 rg1 m1 m2 (fun p l e R s m args below meth c G H locs cells slots lsl C f1 f2 f3 f4 hle hh hS9 => ?_)
  have cb := jCallB (mc := hS h1 - hS h) (ms := hT h1 - hT h) C f1 f2 F.1 F.2.2.2 hl hn
  have C' := C
  obtain ⟨c1, c2, c3, c4, c5, c6, c7, c8, c9, c10, c11⟩ := C
  have hob := hh.2.1 b r (by omega) (by omega) (by rw [hk]; exact hc)
  rw [hk, Nat.add_sub_cancel] at hob
  obtain ⟨cell, q1, q2, q3, q4⟩ := hob
  have hpre := jPc_pre (av := jR b :: av) hh c11 hS9
  have e1 : (jR b :: av).map (j_tr G) = Value.ref (j_ad G b) :: av.map (j_tr G) := by
    show j_rv G b :: _ = _
    rw [j_rd1 G b0]
  rw [e1] at hpre
  refine ⟨(Value.ref (j_ad G b) :: av.map (j_tr G)).toArray, vx_runV (own := y.1.cls) (C := y'.1.cls) (index := idx) (As := av.map (j_tr G)) (b := j_ad G b) ⟨c1, c2, c3, c6, c8⟩ (M l G c10) ⟨cb, c8 _ F.2.1, c8 _ F.2.2.1⟩ ⟨jPc_blind, ⟨cell, q1, by rw [q3]; rfl, ?_⟩, hpre⟩ rfl (by rw [List.length_map]) hle.1 ?_ (j_hW (y := y) hst) hd ⟨f3, f4⟩⟩
  · rw [q2, hcl]
    exact (c11.1.1 ci _ hc).2.1
  · show (av.reverse ++ jR b :: st).map (j_tr G) = _
    rw [List.map_append, List.map_reverse]
    congr 1
    show j_rv G b :: _ = _
    rw [j_rd1 G b0]
theorem j_metI {l : Launch} {y' : MethodName} {ws : List Cond} {rm : Room} {Pc : Array Value → State → Prop} {Qc : Array Value → State → Outcome → State → Prop} {XC : String → State → State → Prop} {mc ms : Nat} {free : Addr → Prop} (hM : vx_Met l y' ws rm Pc Qc XC mc ms free) (hX : ∀ E s t, ¬ XC E s t) : Met l y' ws rm Pc Qc mc ms free := by
  intro p e a1 a2 a3 s m args below a4 a5 a6 a7
  obtain ⟨n, o, b1, b2, b3, b4⟩ := hM p e a1 a2 a3 s m args below a4 a5 a6 a7
  rcases b4 with b4 | ⟨q, -, E, ce, L, b5, -⟩
  · exact ⟨n, o, b1, b2, b3, b4⟩
  · exact absurd b5 (hX E _ _)
theorem wp_callI {y' : jM} {b idx : Nat} (av : List jV) {st0 : List jV} (hs0 : st0 = av.reverse ++ jR b :: st) (F : jci y') (hl : Cond.methodLink y.1.cls idx y'.1 ∈ jW) (hn : (parseMethodDescriptor y'.1.desc).map (fun d => d.parameters.length) = some av.length) (hd : decode y.2.1 pc = .ok (.invokespecial idx, 3)) (hst : (st.map j_cat).sum ≤ 8) (b0 : b ≠ 0)
    (k : jCall d y' (jR b :: av) h (fun o h' => o = .inl none ∧ jWp (d + 1) y (pc + 3) ls st h' Q)) : jWp (d + 1) y pc ls st0 h Q := by
  intro ok h2 h3
  subst hs0
  obtain ⟨o1, h1, ⟨ho1, hq⟩, ok1, rg1, m1, m2, M⟩ := k ok (fun v hv => by
    rcases List.mem_cons.mp hv with e | e
    · rw [e]; trivial
    · exact h3 v (List.mem_append_left _ (List.mem_reverse.mpr e)))
  subst ho1
  refine jcall (o1 := .inl none) ok h2 (fun v hv => h3 v (List.mem_append_right _ (List.mem_cons_of_mem _ hv))) (show jWp (d + 1) y (pc + 3) ls ([] ++ st) h1 Q from hq) ok1 rg1 m1 m2 (fun p l e R s m args below meth c G H locs cells slots lsl C f1 f2 f3 f4 hle hh hS9 => ?_)
  have cb := jCallB (mc := hS h1 - hS h) (ms := hT h1 - hT h) C f1 f2 F.1 F.2.2.2.2 hl hn
  obtain ⟨c1, c2, c3, c4, c5, c6, c7, c8, c9, c10, c11⟩ := C
  have hpre := jPc_pre (av := jR b :: av) hh c11 hS9
  have e1 : (jR b :: av).map (j_tr G) = Value.ref (j_ad G b) :: av.map (j_tr G) := by
    show j_rv G b :: _ = _
    rw [j_rd1 G b0]
  rw [e1] at hpre
  have hret : y'.2.2.2.1 = none := F.2.2.2.1
  rw [hret] at cb
  have hM := j_metI (M l G c10) (fun E s t z => by cases z.1)
  have run := va_runI (p := p) (l := l) (e := e) (R := R) (s := s) (m := m) (args := args) (below := below) (meth := meth) (c := c) (H := H) (locs := locs) (cells := cells) (slots := slots) (own := y.1.cls) (index := idx) (As := av.map (j_tr G)) (b := j_ad G b) (rest := st.map (j_tr G)) (g := F0 m pc lsl ((av.reverse ++ jR b :: st).map (j_tr G))) ⟨c1, c2, c3, c6, c8⟩ hM ⟨cb, F.2.2.1, c8 _ F.2.1⟩ ⟨jPc_blind, hpre⟩ rfl (by rw [List.length_map]) hle.1 (by
    rw [List.map_append, List.map_reverse]
    show (List.map (j_tr G) av).reverse ++ (j_rv G b :: st.map (j_tr G)) = _
    rw [j_rd1 G b0]) (j_hW (y := y) hst) hd ⟨f3, f4⟩
  exact ⟨_, fun T a1 a2 => Or.inl (run T a1 a2)⟩
theorem wp_callS {y' : jM} {idx : Nat} (av : List jV) {st0 : List jV} (hs0 : st0 = av.reverse ++ st) (F : jcs y') (hl : Cond.methodLink y.1.cls idx y'.1 ∈ jW) (hn : (parseMethodDescriptor y'.1.desc).map (fun d => d.parameters.length) = some av.length) (hd : decode y.2.1 pc = .ok (.invokestatic idx, 3)) (hst : (st.map j_cat).sum ≤ 8)
    (k : jCall d y' av h (jAft (d + 1) y pc ls st Q)) : jWp (d + 1) y pc ls st0 h Q := by
  intro ok h2 h3
  subst hs0
  obtain ⟨o1, h1, hq, ok1, rg1, m1, m2, M⟩ := k ok (fun v hv => h3 v (List.mem_append_left _ (List.mem_reverse.mpr hv)))
  refine jcall ok h2 (fun v hv => h3 v (List.mem_append_right _ hv)) hq ok1 rg1 m1 m2 (fun p l e R s m args below meth c G H locs cells slots lsl C f1 f2 f3 f4 hle hh hS9 => ?_)
  by_cases hh0 : y'.2.2.2.2 = []
  · have cb := jCallB (mc := hS h1 - hS h) (ms := hT h1 - hT h) C f1 f2 F.1 hh0 hl hn
    obtain ⟨c1, c2, c3, c4, c5, c6, c7, c8, c9, c10, c11⟩ := C
    refine ⟨(av.map (j_tr G)).toArray, vx_runS (own := y.1.cls) (index := idx) (As := av.map (j_tr G)) ⟨c1, c2, c3, c6, c8⟩ (M l G c10) ⟨cb, c8 _ F.2⟩ ⟨jPc_blind, jPc_pre hh c11 hS9⟩ rfl (by rw [List.length_map]) hle.1 ?_ (j_hW (y := y) hst) hd ⟨f3, f4⟩⟩
    show (av.reverse ++ st).map (j_tr G) = _
    rw [List.map_append, List.map_reverse]
  · have hd9 : jhd y' = Cond.codeWith y'.1 y'.2.1 y'.2.2.1 y'.2.2.2.1 y'.2.2.2.2 := if_neg hh0
    obtain ⟨c1, c2, c3, c4, c5, c6, c7, c8, c9, c10, c11⟩ := C
    obtain ⟨⟨g1, g2, g3, g4⟩, g5⟩ := F
    have cw : vx_CSW R s args y.1.cls idx y'.1 y'.2.1 y'.2.2.1 y'.2.2.2.1 y'.2.2.2.2 (jhd y' :: jW) (jrm d (hS h1 - hS h) (hT h1 - hT h)) (hS h1 - hS h) (hT h1 - hT h) av.length := by
      refine ⟨⟨rfl, rfl, f1, ?_, fun w hw a' U hW => jword (jW_all (jWs_all g1 w hw)) (c8 _ (jWs_all g1 w hw)) hW, ?_⟩, ?_, c8 _ g2, g3, fun sig hs => ?_, c8 _ hl, c8 _ g5⟩
      · show 8 + (_ + 11) + 40 * d ≤ _
        omega
      · rw [← hd9]; exact List.mem_cons_self
      · rw [← hd9]; exact c8 _ g1
      · rw [hs] at hn
        exact (Option.some.inj hn).symm
    refine ⟨(av.map (j_tr G)).toArray, vx_runSX (own := y.1.cls) (index := idx) (As := av.map (j_tr G)) ⟨c1, c2, c3, c6, c8⟩ (M l G c10) cw ⟨jPc_blind, jPc_pre hh c11 hS9⟩ rfl (by rw [List.length_map]) hle.1 ?_ (j_hW (y := y) hst) hd ⟨f3, f4⟩⟩
    show (av.reverse ++ st).map (j_tr G) = _
    rw [List.map_append, List.map_reverse]
end CP
