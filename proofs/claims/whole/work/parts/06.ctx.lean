/-- the static rows of numbers: 1 WIDTHS, 2 LINES, 3 WANTS -/
def jWID : List Int := [212222, 222122, 222221, 121223, 121322, 131222, 122213, 122312, 132212, 221213, 221312, 231212, 112232, 122132, 122231, 113222, 123122, 123221, 223211, 221132, 221231, 213212, 223112, 312131, 311222, 321122, 321221, 312212, 322112, 322211, 212123, 212321, 232121, 111323, 131123, 131321, 112313, 132113, 132311, 211313, 231113, 231311, 112133, 112331, 132131, 113123, 113321, 133121, 313121, 211331, 231131, 213113, 213311, 213131, 311123, 311321, 331121, 312113, 312311, 332111, 314111, 221411, 431111, 111224, 111422, 121124, 121421, 141122, 141221, 112214, 112412, 122114, 122411, 142112, 142211, 241211, 221114, 413111, 241112, 134111, 111242, 121142, 121241, 114212, 124112, 124211, 411212, 421112, 421211, 212141, 214121, 412121, 111143, 111341, 131141, 114113, 114311, 411113, 411311, 113141, 114131, 311141, 411131, 211412, 211214, 211232]
def jLIN : List Int := [0, 0, 2, -1, 3180, 0, 0, 0, 1, 2, 2, -1, 3140, 0, 0, 0, 10, 10, 2, -1, 2201, 0, 0, 0, 11, 13, 2, -1, 4060, 0, 0, 0, 15, 17, 2, -1, 4060, 0, 0, 0, 20, 20, 2, -1, 1020, 0, 0, 0, 21, 22, 2, -1, 2201, 0, 0, 0, 30, 30, 2, -1, 1081, 0, 0, 0, 37, 37, 2, -1, 1081, 0, 0, 0, 90, 90, 2, -1, 2301, 0, 0, 0, 91, 99, 2, -1, 2901, 0, 0, 0, 235, 235, 3, -1, 2281, 0, 0, 0, 240, 241, 3, -1, 2301, 0, 0, 0, 242, 242, 3, -1, 1061, 0, 0, 0, 243, 243, 3, -1, 2201, 0, 0, 0, 250, 251, 3, -1, 2301, 0, 0, 0, 253, 253, 3, -1, 3130, 2173, 0, 0, 254, 254, 3, -1, 2201, 0, 0, 0, 255, 255, 3, -1, 3130, 1123, 0, 0, 310, 316, 3, 5, 1060, 0, 0, 0, 320, 337, 3, 5, 1060, 0, 0, 0, 340, 357, 3, 5, 1060, 0, 0, 0, 360, 369, 3, 5, 1060, 0, 0, 0, 390, 390, 3, 9, 1151, 0, 0, 0, 391, 391, 3, 9, 1030, 1151, 0, 0, 392, 392, 3, 9, 1151, 0, 0, 0, 393, 393, 3, 9, 1030, 1151, 0, 0, 394, 394, 3, 3, 1040, 0, 0, 0, 395, 395, 3, 5, 1060, 0, 0, 0, 400, 401, 3, -1, 2301, 0, 0, 0, 402, 402, 3, -1, 3170, 0, 0, 0, 403, 403, 3, -1, 2301, 0, 0, 0, 410, 417, 3, -1, 3130, 0, 0, 0, 420, 420, 3, -1, 2201, 0, 0, 0, 421, 421, 3, -1, 1030, 2091, 0, 0, 422, 422, 3, -1, 1030, 0, 0, 0, 424, 424, 3, -1, 1030, 0, 0, 0, 426, 426, 3, -1, 1030, 0, 0, 0, 427, 427, 3, -1, 2031, 0, 0, 0, 7001, 7001, 4, -1, 1130, 0, 0, 0, 7002, 7002, 4, -1, 2301, 0, 0, 0, 7003, 7003, 4, -1, 4060, 5040, 0, 0, 7004, 7004, 4, -1, 1041, 0, 0, 0, 7005, 7005, 4, -1, 2121, 0, 0, 0, 7006, 7006, 4, -1, 4060, 0, 0, 0, 7007, 7007, 4, -1, 4060, 4062, 0, 0, 7008, 7008, 4, -1, 2031, 0, 0, 0, 7009, 7009, 4, -1, 2101, 0, 0, 0, 7010, 7010, 4, -1, 2021, 0, 0, 0, 7030, 7039, 4, -1, 1030, 2271, 0, 0, 8001, 8001, 4, -1, 1140, 0, 0, 0, 8002, 8002, 4, -1, 2201, 0, 0, 0, 8003, 8003, 4, -1, 3140, 2163, 0, 0, 8004, 8004, 4, -1, 2301, 0, 0, 0, 8005, 8005, 4, -1, 1060, 0, 0, 0, 8006, 8006, 4, -1, 3140, 1020, 1020, 0, 8007, 8007, 4, -1, 2341, 0, 0, 0, 8008, 8008, 4, -1, 4060, 1020, 1022, 1022, 8011, 8011, 4, -1, 1121, 0, 0, 0, 8012, 8012, 4, -1, 2201, 0, 0, 0, 8013, 8013, 4, -1, 2251, 0, 0, 0, 8017, 8018, 4, -1, 3180, 0, 0, 0, 8019, 8019, 4, -1, 1101, 0, 0, 0, 8020, 8020, 4, -1, 2251, 0, 0, 0, 8026, 8026, 4, -1, 3140, 1020, 1020, 0]
def jWAN : List Int := [1, 1, 0, 2, -1, -1, -1, 2, 2, 1, 37, -1, -1, -1, 10, 10, 1, 1, 2, 8006, 8026, 11, 11, 1, 1, 2, 8006, 8026, 13, 13, 1, 1, 2, 8006, 8026, 15, 17, 1, 1, 2, 8006, 8026, 21, 21, 1, 1, 8006, -1, -1, 37, 37, 1, 2, -1, -1, -1, 310, 316, 1, 1, 2, -1, -1, 390, 391, 1, 255, 8020, -1, -1, 392, 393, 1, 1, -1, -1, -1, 420, 420, 0, 421, -1, -1, -1, 8018, 8018, 0, 8017, -1, -1, -1]
def jS : Nat → List Int
  | 1 => jWID
  | 2 => jLIN
  | 3 => jWAN
  | _ => []
def jMKI : List Int := [33, 34, 37, 38, 39, 40, 41, 42, 43, 44, 45, 46, 47, 58, 59, 60, 61, 62, 63, 95]
def jMKB : List Int32 := [33, 34, 37, 38, 39, 40, 41, 42, 43, 44, 45, 46, 47, 58, 59, 60, 61, 62, 63, 95]
/-- a method: its name, its bytes, its variables, its answer, its handlers -/
abbrev jM : Type := MethodName × ByteArray × Nat × Option FieldType × List (Nat × Nat × Nat × Nat)
def jgood (w : Cond) : Bool := goodWord w || (match w with
  | .castable .. => true
  | .declares .. => true
  | _ => false)
/-- the words that ride along with every call -/
def jW : List Cond := lw_tbl.filter jgood
def jhd (y : jM) : Cond := if y.2.2.2.2 = [] then Cond.code y.1 y.2.1 y.2.2.1 y.2.2.2.1 else Cond.codeWith y.1 y.2.1 y.2.2.1 y.2.2.2.1 y.2.2.2.2
theorem jword {w : Cond} (hw : jgood w = true) {args a' : Array Value} {s U : State} (h : w.before args s = true) (hW : s.WarmedH U.vm) : w.before a' U = true := by
  simp only [jgood, Bool.or_eq_true] at hw
  rcases hw with hw | hw
  · exact word_at hW (good_of_word hw) h
  · cases w with
    | castable C T => exact va_Nw.use rfl (va_Nw.warmC hW (va_Nw.of rfl h))
    | declares x => exact va_Nw.use rfl (va_Nw.warmD hW (va_Nw.of rfl h))
    | _ => cases hw
theorem jW_all {w : Cond} (hw : w ∈ jW) : jgood w = true := (List.mem_filter.mp hw).2
theorem jW_tbl {w : Cond} (hw : w ∈ jW) : w ∈ lw_tbl := (List.mem_filter.mp hw).1
def jty (G : jG) : List (ClassId × FieldType) := [(G.2.2.2.1 0, .int), (G.2.2.2.1 1, .byte), (G.2.2.2.1 2, .boolean), (G.2.2.2.1 3, .long), (G.2.2.2.1 4, .object RX4), (G.2.2.2.1 5, .object RX6)]
def jsv (n : Nat) (j : Nat) : Value := .int (Int32.ofInt ((jS n).getD j 0))
def jbA (G : jG) : Nat → Prop := fun q => G.2.1 ≤ q
/-- the strings' contents -/
def jStr (G : jG) (U : State) (H : Heap) : Prop := vk_S 1 [20] [jMKB] (fun _ => G.2.2.1 5) (fun _ => G.2.2.1 6) (jbA G) U H
/-- what lies below the run, and stays -/
def jst (G : jG) (U : State) (H : Heap) : Prop :=
  (va_T .int (G.2.2.1 1) 106 (jsv 1) (jbA G) U H ∧ va_T .int (G.2.2.1 2) 520 (jsv 2) (jbA G) U H ∧ va_T .int (G.2.2.1 3) 91 (jsv 3) (jbA G) U H) ∧
  (va_Z RX1 "WIDTHS" "[I" (.ref (G.2.2.1 1)) (jbA G) U H ∧ va_Z RX8 "LINES" "[I" (.ref (G.2.2.1 2)) (jbA G) U H ∧ va_Z RX8 "WANTS" "[I" (.ref (G.2.2.1 3)) (jbA G) U H) ∧
  (jStr G U H ∧ va_Z "java/lang/String" "COMPACT_STRINGS" "Z" (.int 1) (jbA G) U H) ∧
  (vx_Zq Bundle.tN "UNASSIGNED_STACK" Bundle.steD (jbA G) U H ∧ vx_Zq Bundle.tN "SUPPRESSED_SENTINEL" Bundle.listD (jbA G) U H)
/-- the entries of texts -/
def jtx (G : jG) (U : State) : Prop :=
  vk_R RX8 23 "!\"%&'()*+,-./:;<=>?_" (G.2.2.1 5) U ∧ (∃ a, vk_R RX10 165 "there is no such element" a U) ∧ (∃ a, vk_R RX10 184 "there is no such part" a U) ∧ (∃ a, vk_R RX10 195 "there is no such date" a U) ∧ (∃ a, vk_R RX10 228 "there is no such shelf" a U) ∧ (∃ a, vk_R RX10 256 "there is no symbol" a U)
def jao (U : State) : Prop := va_AO RX4 U ∧ va_AO RX6 U ∧ va_Nc "java/util/NoSuchElementException" "java/lang/IndexOutOfBoundsException" U
/-- all that is below, at a state and a heap -/
def jlo (G : jG) (U : State) (H : Heap) : Prop := va_K G.1 vwCl (jty G) U ∧ jst G U H ∧ jtx G U ∧ jao U ∧ va_X (G.2.2.1 4) G.2.2.2.2.2 G.2.2.2.2.1 U H ∧ G.2.1 ≤ H.size ∧ (∀ k, k < 10 → 1 ≤ k → G.2.2.1 k < G.2.1)
theorem jst.moved {G : jG} {u U : State} {H : Heap} (hvm : u.vm.Alike U.vm) (h : jst G u H) : jst G U H := by
  obtain ⟨⟨a1, a2, a3⟩, ⟨b1, b2, b3⟩, ⟨c1, c2⟩, d1, d2⟩ := h
  exact ⟨⟨va_T.moved hvm a1, va_T.moved hvm a2, va_T.moved hvm a3⟩, ⟨va_Z.moved hvm b1, va_Z.moved hvm b2, va_Z.moved hvm b3⟩, ⟨vk_S.moved hvm c1, va_Z.moved hvm c2⟩, vx_Zq.moved hvm d1, vx_Zq.moved hvm d2⟩
theorem jst.kept {G : jG} {U : State} {H H1 : Heap} (h : jst G U H) (hq : ∀ a : Nat, a < H.size → ¬ jbA G a → H1[a]? = H[a]?) : jst G U H1 := by
  obtain ⟨⟨a1, a2, a3⟩, ⟨b1, b2, b3⟩, ⟨c1, c2⟩, d1, d2⟩ := h
  exact ⟨⟨a1.kept hq, a2.kept hq, a3.kept hq⟩, ⟨b1.kept hq, b2.kept hq, b3.kept hq⟩, ⟨vk_S.kept c1 hq, c2.kept hq⟩, d1.kept hq, d2.kept hq⟩
theorem jtx.warm {G : jG} {s U : State} (hW : s.WarmedH U.vm) (h : jtx G s) : jtx G U := by
  obtain ⟨a, ⟨_, b⟩, ⟨_, c⟩, ⟨_, d⟩, ⟨_, e⟩, ⟨_, f⟩⟩ := h
  exact ⟨vk_R.warm hW a, ⟨_, vk_R.warm hW b⟩, ⟨_, vk_R.warm hW c⟩, ⟨_, vk_R.warm hW d⟩, ⟨_, vk_R.warm hW e⟩, ⟨_, vk_R.warm hW f⟩⟩
theorem jlo.push {G : jG} {s U : State} {H : Heap} (hW : s.WarmedH U.vm) (h : jlo G s s.heap) (hz : s.heap.size ≤ H.size) (hq : ∀ a : Nat, a < s.heap.size → ¬ jbA G a → H[a]? = s.heap[a]?) : jlo G U H := by
  obtain ⟨a, b, c, d, e, f, g⟩ := h
  refine ⟨va_K.moved hW.alike a, jst.moved hW.alike (b.kept hq), jtx.warm hW c, ⟨va_AO.moved hW.alike d.1, va_AO.moved hW.alike d.2.1, va_Nc.moved hW.alike d.2.2⟩, va_X.moved hW.alike (e.kept ?_), Nat.le_trans f hz, g⟩
  obtain ⟨scr, h1, -⟩ := e
  exact hq _ (Array.getElem?_eq_some_iff.mp h1).1 (fun z => absurd (g 4 (by decide) (by decide)) (Nat.not_lt.mpr z))
/-- a field's value, an array's place -/
def j_fv (G : jG) (h : jH) (ci k j : Nat) : Value := if j_isr (j_ty ci j) = true then j_rv G (hR h (100 * ci + j) k) else .int (Int32.ofInt (hI h (100 * ci + j) k))
def j_av (G : jG) (h : jH) (k : Nat) (j : Int) : Value := if 14 ≤ hK h k then j_rv G (hQ h k j) else if hK h k = 13 then .long (Int64.ofInt (hA h k j)) else .int (Int32.ofInt (hA h k j))
/-- what the run has made: objects (kinds 1 .. 9: a class's place and one), arrays (10 int, 11 byte, 12 boolean, 13 long, 14 elements, 15 labels); 4: the script -/
def jhr (G : jG) (h : jH) (H : Heap) : Prop :=
  H.size = G.2.1 + (hS h - 10) ∧
  (∀ k r, 1 ≤ hK h k → hK h k ≤ 9 → vwCl[hK h k - 1]? = some r → t_OB (j_ad G k) (G.1.1 (hK h k - 1)) r.2.2 (G.1.2 (hK h k - 1)) H (j_fv G h (hK h k - 1) k)) ∧
  (∀ k, 10 ≤ hK h k → hK h k ≤ 15 → H[j_ad G k]? = some (arrV (G.2.2.2.1 (hK h k - 10)) (hN h k).toNat (fun j => j_av G h k (j : Int)))) ∧
  (hK h 4 = 21 → hN h 4 = (G.2.2.2.2.2 : Int) ∧ ∀ j : Nat, j < G.2.2.2.2.2 → G.2.2.2.2.1 j = Int32.ofInt (hA h 4 (j : Int)))
/-- how it ends: with an answer or none, or with an exception of that class -/
abbrev jO : Type := Option jV ⊕ String
def j_rgO : jO → Prop
  | .inl (some v) => j_rg v
  | _ => True
def jQc (G : jG) (o : jO) (h' : jH) : Array Value → State → Outcome → State → Prop := fun _ st oc t => ∃ v, o = .inl v ∧ oc = .returned (v.map (j_tr G)) ∧ jhr G h' t.heap ∧ va_F (jbA G) st t
def jXC (G : jG) (o : jO) (h' : jH) : String → State → State → Prop := fun E st t => o = .inr E ∧ jhr G h' t.heap ∧ va_F (jbA G) st t
/-- the standing facts of a walk through the method y -/
def jCx (p : Program) (l : Launch) (s : State) (m : MethodId) (args : Array Value) (meth : Method) (c : Code) (y : jM) (G : jG) : Prop :=
  p.tables.exec = Jvm.exec ∧ c.code = y.2.1 ∧ c.maxLocals = y.2.2.1 ∧ meth.sig.returnType = y.2.2.2.1 ∧ meth.locks = false ∧ s.vm.findClass y.1.cls = some m.cls ∧ meth.name = y.1.name ∧ (∀ w ∈ jW, w.before args s = true) ∧ c.exceptionTable.toList = tableOf y.2.2.2.2 ∧ l.stackTraces = false ∧ jlo G s s.heap
/-- what a walk gives from a point: an end that Q allows, reached whatever the machine -/
def jGoes (d : Nat) (y : jM) (pc : Nat) (ls : List (Nat × jV)) (st : List jV) (h : jH) (o : jO) (h' : jH) : Prop :=
  ∀ (p : Program) (l : Launch) (e : Env) (R : Room) (s : State) (m : MethodId) (args : Array Value) (below : List Frame) (meth : Method) (c : Code) (G : jG) (S0 T0 : Nat),
    jCx p l s m args meth c y G → d ≤ R.frames → 40 * d ≤ R.locals → S0 ≤ hS h → T0 ≤ hT h → hS h' - S0 ≤ R.cells → hT h' - T0 ≤ R.slots →
    ∀ (H : Heap) (locs : List Loc) (lsl : Array Slot), lv_has lsl y.2.2.1 (ls.map (j_tl G)) → jhr G h H → va_S (jbA G) s.heap H locs →
    W p l e R s m args below meth c H locs (hS h - S0) (hT h - T0) (vx_MQ below (jQc G o h') (jXC G o h') args s (hS h' - S0) (hT h' - T0) (jbA G)) (F0 m pc lsl (st.map (j_tr G)))
def jWp (d : Nat) (y : jM) (pc : Nat) (ls : List (Nat × jV)) (st : List jV) (h : jH) (Q : jO → jH → Prop) : Prop :=
  jOK h → (∀ q ∈ ls, j_rg q.2) → (∀ v ∈ st, j_rg v) →
  ∃ o h', Q o h' ∧ jOK h' ∧ j_rgO o ∧ hS h ≤ hS h' ∧ hT h ≤ hT h' ∧ jGoes d y pc ls st h o h'
def jrm (d mc ms : Nat) : Room := { frames := d, cells := mc, slots := ms, locals := 40 * d }
def jPc (G : jG) (av : List jV) (h : jH) : Array Value → State → Prop := va_Pc (av.map (j_tr G)) (fun U => jhr G h U.heap ∧ jlo G U U.heap)
def jCall (d : Nat) (y : jM) (av : List jV) (h : jH) (Q : jO → jH → Prop) : Prop :=
  jOK h → (∀ v ∈ av, j_rg v) →
  ∃ o h', Q o h' ∧ jOK h' ∧ j_rgO o ∧ hS h ≤ hS h' ∧ hT h ≤ hT h' ∧
    ∀ (l : Launch) (G : jG), l.stackTraces = false → vx_Met l y.1 (jhd y :: jW) (jrm d (hS h' - hS h) (hT h' - hT h)) (jPc G av h) (jQc G o h') (jXC G o h') (hS h' - hS h) (hT h' - hT h) (jbA G)
/-- the variables at a method's entry -/
def jargs : Nat → List jV → List (Nat × jV)
  | _, [] => []
  | i, v :: vs => (i, v) :: jargs (i + j_cat v) vs
theorem j_cat_tr (G : jG) (v : jV) : (j_tr G v).category = j_cat v := by
  rcases v with x | x | k
  · rfl
  · rfl
  · show (j_rv G k).category = 1
    unfold j_rv
    split <;> rfl
theorem jargs_map (G : jG) : ∀ (av : List jV) (i : Nat), lv_args i (av.map (j_tr G)) = (jargs i av).map (j_tl G)
  | [], _ => rfl
  | v :: vs, i => by
    have ih := jargs_map G vs (i + j_cat v)
    simp only [List.map_cons, lv_args, jargs, j_tl, j_cat_tr]
    rw [show (if j_cat v = 2 then i + 2 else i + 1) = i + j_cat v by rcases v with x | x | k <;> rfl, ih]
theorem jargs_mem : ∀ (av : List jV) (i : Nat) (q : Nat × jV), q ∈ jargs i av → q.2 ∈ av
  | [], _, q, h => by cases h
  | v :: vs, i, q, h => by
    rcases List.mem_cons.mp h with h | h
    · rw [h]; exact List.mem_cons_self
    · exact List.mem_cons_of_mem _ (jargs_mem vs _ q h)
def jargl (av : List jV) : Nat := (av.map j_cat).sum
theorem jargl_sl (G : jG) : ∀ av : List jV, (lg_sl (av.map (j_tr G))).length = jargl av
  | [] => rfl
  | v :: vs => by
    have ih := jargl_sl G vs
    simp only [jargl, List.map_cons, List.sum_cons]
    rw [← jargl, ← ih]
    simp only [lg_sl, List.map_cons, List.flatMap_cons, List.length_append]
    rw [j_cat_tr]
    rcases v with x | x | k <;> simp [j_cat]
