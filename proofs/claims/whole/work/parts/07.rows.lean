/-! A METHOD OUT OF ITS BODY -/
theorem jCall_of {d : Nat} {y : jM} {av : List jV} {h : jH} {Q : jO → jH → Prop} (hy : plainName y.1.cls = true) (hn : jargl av ≤ y.2.2.1)
    (k : jWp d y 0 (jargs 0 av) [] h Q) : jCall d y av h Q := by
  intro h1 h2
  obtain ⟨o, h', hq, ho, hr, m1, m2, K⟩ := k h1 (fun q hq => h2 _ (jargs_mem av 0 q hq)) (fun v hv => by cases hv)
  refine ⟨o, h', hq, ho, hr, m1, m2, fun l G hl => ?_⟩
  have key : ∀ (p : Program) (e : Env) (s : State) (m : MethodId) (args : Array Value) (below : List Frame) (meth : Method) (c : Code) (s₁ : State), BodyLoose p l y.1 (headSpec (jhd y :: jW) (jrm d (hS h' - hS h) (hT h' - hT h))) y.2.1 y.2.2.1 y.2.2.2.1 e s m args below meth c s₁ → c.maxLocals = y.2.2.1 → c.exceptionTable.toList = tableOf y.2.2.2.2 → jPc G av h args s →
      W p l e (jrm d (hS h' - hS h) (hT h' - hT h)) s m args below meth c s.heap [] 0 0 (vx_MQ below (jQc G o h') (jXC G o h') args s (hS h' - hS h) (hT h' - hT h) (jbA G)) (entryFrame m args y.2.2.1) := by
    intro p e s m args below meth c s₁ B hml htb hp
    obtain ⟨rfl, hhr, hlo⟩ := hp
    have hts : ∀ w ∈ jW, w.before (av.map (j_tr G)).toArray s = true := fun w hw => atoms_spec (ws := jhd y :: jW) B.pre w (List.mem_cons_of_mem _ hw)
    have hown : s.vm.findClass y.1.cls = some m.cls := findClass_of_methodNamed B.named
    have hnm : meth.name = y.1.name := (name_of_methodNamed B.named B.method).1
    rw [lg_entry_eq]
    have hle := lv_entry (av.map (j_tr G)) (n := y.2.2.1) (by rw [jargl_sl]; exact hn)
    rw [jargs_map] at hle
    have := K p l e (jrm d (hS h' - hS h) (hT h' - hT h)) s m (av.map (j_tr G)).toArray below meth c G (hS h) (hT h) ⟨B.exec, B.bytes, hml, B.returns, B.notSynchronized, hown, hnm, hts, htb, hl, hlo⟩ (Nat.le_refl _) (Nat.le_refl _) (Nat.le_refl _) (Nat.le_refl _) (Nat.le_refl _) (Nat.le_refl _) s.heap [] _ hle hhr va_S.rf
    rw [Nat.sub_self, Nat.sub_self] at this
    exact this
  by_cases hh : y.2.2.2.2 = []
  · have hd : jhd y = Cond.code y.1 y.2.1 y.2.2.1 y.2.2.2.1 := if_pos hh
    refine vx_ofW (cc := y.2.1) (maxL := y.2.2.1) (ret := y.2.2.2.1) (ws' := jW) hy (by rw [hd]) ?_
    intro p e s m args below meth c s₁ B hml ht hp
    refine key p e s m args below meth c s₁ B hml ?_ hp
    rw [hh]
    cases hl9 : c.exceptionTable.toList with
    | nil => rfl
    | cons x xs => exact absurd (ht x (by rw [hl9]; exact List.mem_cons_self)) (fun h => h)
  · have hd : jhd y = Cond.codeWith y.1 y.2.1 y.2.2.1 y.2.2.2.1 y.2.2.2.2 := if_neg hh
    refine vx_ofWH (cc := y.2.1) (maxL := y.2.2.1) (ret := y.2.2.2.1) (hh := y.2.2.2.2) (ws' := jW) hy (by rw [hd]) ?_
    intro p e s m args below meth c s₁ B hml hp
    refine key p e s m args below meth c s₁ B hml ?_ hp
    exact vx_table (x := y.1) B (atoms_spec (ws := jhd y :: jW) B.pre _ (by rw [← hd]; exact List.mem_cons_self))
/-! more of numbers -/
theorem j_32_64 {x : Int} (h : j32 x) : j64 x := ⟨by have := h.1; omega, by have := h.2; omega⟩
theorem j_shr_rg {x : Int} {n : Nat} (h : j32 x) : j32 (x / 2 ^ n) := by
  have hp : (0 : Int) < 2 ^ n := Int.pow_pos (by decide)
  have h1 : x / 2 ^ n ≤ max x 0 := by
    by_cases hx : 0 ≤ x
    · have := Int.ediv_le_self (2 ^ n) hx
      omega
    · have := Int.ediv_neg_of_neg_of_pos (show x < 0 by omega) hp
      omega
  have h2 : min x 0 ≤ x / 2 ^ n := by
    by_cases hx : 0 ≤ x
    · have := Int.ediv_nonneg hx (Int.le_of_lt hp)
      omega
    · refine Int.le_trans (Int.min_le_left _ _) ?_
      rw [Int.le_ediv_iff_mul_le hp]
      have h3 : (1 : Int) ≤ 2 ^ n := hp
      have h4 : x * 2 ^ n ≤ x * 1 := Int.mul_le_mul_of_nonpos_left (by omega) h3
      omega
  have := h.1; have := h.2
  exact ⟨by omega, by omega⟩
theorem j_shr {x z : Int} (hx : j32 x) (h0 : 0 ≤ z) (h1 : z < 32) : Int32.ofInt x >>> (Int32.ofInt z &&& 31) = Int32.ofInt (x / 2 ^ z.toNat) := by
  have e : Int32.ofInt z &&& 31 = nI z.toNat &&& 31 := by
    rw [show Int32.ofInt z = nI z.toNat from by
      rw [show z = ((z.toNat : Nat) : Int) from (Int.toNat_of_nonneg h0).symm, Int32.ofInt_eq_ofNat]; rfl]
  refine j_eqI ?_
  have key : ∀ n, n < 32 → (((nI n) &&& 31).toBitVec.smod 32).toNat = n := by decide +kernel
  rw [e, pk_shr (k := z.toNat) _ _ (key _ (by omega)), j_ti hx]
  exact Int.shiftRight_eq_div_pow _ _
theorem j_and {x : Int} (hx : j32 x) (k : Nat) {m : Int32} (hm : m.toBitVec.toNat = 2 ^ k - 1 ∧ k ≤ 30) : Int32.ofInt x &&& m = Int32.ofInt (x % 2 ^ k) := by
  rw [pk_and _ k hm.1]
  show Int32.ofNat _ = _
  rw [← Int32.ofInt_eq_ofNat]
  congr 1
  have h1 : ((Int32.ofInt x).toBitVec.toNat : Int) % 2 ^ 32 = x % 2 ^ 32 := by
    have h2 : (Int32.ofInt x).toBitVec = BitVec.ofInt 32 x := rfl
    rw [h2, BitVec.toNat_ofInt]
    have : (0 : Int) ≤ x % (2 ^ 32 : Nat) := Int.emod_nonneg _ (by decide)
    omega
  have h3 : (2 : Int) ^ k ∣ 2 ^ 32 := ⟨2 ^ (32 - k), by rw [← Int.pow_add, Nat.add_sub_cancel' (by omega)]⟩
  have h4 : ((Int32.ofInt x).toBitVec.toNat : Int) % 2 ^ k = x % 2 ^ k := by
    rw [← Int.emod_emod_of_dvd _ h3, h1, Int.emod_emod_of_dvd _ h3]
  rw [← h4]
  simp
/-! STEPS THAT TOUCH NO HEAP -/
/-- a step from a point to a point of the same heap -/
def jStep (y : jM) (pc : Nat) (ls : List (Nat × jV)) (st : List jV) (pc' : Nat) (ls' : List (Nat × jV)) (st' : List jV) : Prop :=
  ((∀ q ∈ ls, j_rg q.2) → (∀ v ∈ st, j_rg v) → (∀ q ∈ ls', j_rg q.2) ∧ ∀ v ∈ st', j_rg v) ∧
  ((∀ q ∈ ls, j_rg q.2) → (∀ v ∈ st, j_rg v) → ∀ (p : Program) (l : Launch) (e : Env) (R : Room) (s : State) (m : MethodId) (args : Array Value) (below : List Frame) (meth : Method) (c : Code) (G : jG) (H : Heap) (locs : List Loc) (cells slots : Nat) (Z : State → Prop) (lsl : Array Slot),
    jCx p l s m args meth c y G → va_S (jbA G) s.heap H locs → lv_has lsl y.2.2.1 (ls.map (j_tl G)) →
    (∀ lsl' : Array Slot, lv_has lsl' y.2.2.1 (ls'.map (j_tl G)) → W p l e R s m args below meth c H locs cells slots Z (F0 m pc' lsl' (st'.map (j_tr G)))) →
    W p l e R s m args below meth c H locs cells slots Z (F0 m pc lsl (st.map (j_tr G))))
theorem jstep {d : Nat} {y : jM} {pc pc' : Nat} {ls ls' : List (Nat × jV)} {st st' : List jV} {h : jH} {Q : jO → jH → Prop} (hs : jStep y pc ls st pc' ls' st') (k : jWp d y pc' ls' st' h Q) : jWp d y pc ls st h Q := by
  intro h1 h2 h3
  obtain ⟨o, h', hq, ho, hr, m1, m2, K⟩ := k h1 (hs.1 h2 h3).1 (hs.1 h2 h3).2
  refine ⟨o, h', hq, ho, hr, m1, m2, fun p l e R s m args below meth c G S0 T0 C f1 f2 f3 f4 f5 f6 H locs lsl hl hh hS => ?_⟩
  exact hs.2 h2 h3 p l e R s m args below meth c G H locs _ _ _ lsl C hS hl (fun lsl' hl' => K p l e R s m args below meth c G S0 T0 C f1 f2 f3 f4 f5 f6 H locs lsl' hl' hh hS)
theorem j_st1 {st : List jV} {v : jV} (h : ∀ w ∈ st, j_rg w) (hv : j_rg v) : ∀ w ∈ v :: st, j_rg w := List.forall_mem_cons.mpr ⟨hv, h⟩
theorem j_lat {ls : List (Nat × jV)} {k i : Nat} {v : jV} (G : jG) (h : ls[k]? = some (i, v)) : (ls.map (j_tl G))[k]? = some (i, j_tr G v) := by
  rw [List.getElem?_map, h]; rfl
theorem j_lrg {ls : List (Nat × jV)} {k i : Nat} {v : jV} (h : ls[k]? = some (i, v)) (hr : ∀ q ∈ ls, j_rg q.2) : j_rg v := hr (i, v) (List.mem_of_getElem? h)
section PR
variable {d : Nat} {y : jM} {pc : Nat} {ls : List (Nat × jV)} {st : List jV} {h : jH} {Q : jO → jH → Prop}
theorem wp_iconst {n : Int} (hd : decode y.2.1 pc = .ok (.iconst n, 1)) (hn : j32 n) (k : jWp d y (pc + 1) ls (jI n :: st) h Q) : jWp d y pc ls st h Q := by
  refine jstep (pc' := (pc + 1)) (ls' := ls) (st' := (jI n :: st)) ⟨fun a b => ⟨a, j_st1 b hn⟩, fun a b p l e R s m args below meth c G H locs cells slots Z lsl C hS hl kk => ?_⟩ k
  exact lv_iconst (v := Int32.ofInt n) C.1 C.2.1 hd rfl (kk _ hl)
theorem wp_bipush {n : Int} (hd : decode y.2.1 pc = .ok (.bipush n, 2)) (hn : -128 ≤ n ∧ n < 128) (k : jWp d y (pc + 2) ls (jI n :: st) h Q) : jWp d y pc ls st h Q := by
  refine jstep (pc' := (pc + 2)) (ls' := ls) (st' := (jI n :: st)) ⟨fun a b => ⟨a, j_st1 b (show j32 n from ⟨by omega, by omega⟩)⟩, fun a b p l e R s m args below meth c G H locs cells slots Z lsl C hS hl kk => ?_⟩ k
  refine lv_bipush (v := Int32.ofInt n) C.1 C.2.1 hd (j_eqI ?_) (kk _ hl)
  rw [Int8.toInt_toInt32]
  exact Int8.toInt_ofInt_of_le (by omega) (by omega)
theorem wp_sipush {n : Int} (hd : decode y.2.1 pc = .ok (.sipush n, 3)) (hn : -32768 ≤ n ∧ n < 32768) (k : jWp d y (pc + 3) ls (jI n :: st) h Q) : jWp d y pc ls st h Q := by
  refine jstep (pc' := (pc + 3)) (ls' := ls) (st' := (jI n :: st)) ⟨fun a b => ⟨a, j_st1 b (show j32 n from ⟨by omega, by omega⟩)⟩, fun a b p l e R s m args below meth c G H locs cells slots Z lsl C hS hl kk => ?_⟩ k
  refine lv_sipush (v := Int32.ofInt n) C.1 C.2.1 hd (j_eqI ?_) (kk _ hl)
  rw [Int16.toInt_toInt32]
  exact Int16.toInt_ofInt_of_le (by omega) (by omega)
theorem wp_lconst {n : Fin 2} {z : Int} (hd : decode y.2.1 pc = .ok (.lconst n, 1)) (hz : ((n : Nat) : Int) = z) (k : jWp d y (pc + 1) ls (jL z :: st) h Q) : jWp d y pc ls st h Q := by
  refine jstep (pc' := (pc + 1)) (ls' := ls) (st' := (jL z :: st)) ⟨fun a b => ⟨a, j_st1 b (show j64 z from ⟨by have := n.isLt; omega, by have := n.isLt; omega⟩)⟩, fun a b p l e R s m args below meth c G H locs cells slots Z lsl C hS hl kk => ?_⟩ k
  refine lv_lconst (v := Int64.ofInt z) C.1 C.2.1 hd ?_ (kk _ hl)
  rw [← hz]
  exact (Int64.ofInt_eq_ofNat).symm
theorem wp_null  (hd : decode y.2.1 pc = .ok (.aconst_null, 1)) (k : jWp d y (pc + 1) ls (jR 0 :: st) h Q) : jWp d y pc ls st h Q := by
  refine jstep (pc' := (pc + 1)) (ls' := ls) (st' := (jR 0 :: st)) ⟨fun a b => ⟨a, j_st1 (v := jR 0) b trivial⟩, fun a b p l e R s m args below meth c G H locs cells slots Z lsl C hS hl kk => ?_⟩ k
  exact lv_null C.1 C.2.1 hd (kk _ hl)
theorem wp_iload_n {i : Fin 4} (n : Nat) {x : Int} (hd : decode y.2.1 pc = .ok (.iload_n i, 1)) (hk : ls[n]? = some ((i : Nat), jI x)) (k : jWp d y (pc + 1) ls (jI x :: st) h Q) : jWp d y pc ls st h Q := by
  refine jstep (pc' := (pc + 1)) (ls' := ls) (st' := (jI x :: st)) ⟨fun a b => ⟨a, j_st1 b (j_lrg hk a)⟩, fun a b p l e R s m args below meth c G H locs cells slots Z lsl C hS hl kk => ?_⟩ k
  exact lv_iload_n C.1 C.2.1 hd rfl (lv_at hl n (j_lat G hk)) (kk _ hl)
theorem wp_iload {i : Nat} (n : Nat) {x : Int} (hd : decode y.2.1 pc = .ok (.iload i, 2)) (hk : ls[n]? = some (i, jI x)) (k : jWp d y (pc + 2) ls (jI x :: st) h Q) : jWp d y pc ls st h Q := by
  refine jstep (pc' := (pc + 2)) (ls' := ls) (st' := (jI x :: st)) ⟨fun a b => ⟨a, j_st1 b (j_lrg hk a)⟩, fun a b p l e R s m args below meth c G H locs cells slots Z lsl C hS hl kk => ?_⟩ k
  exact lv_iload C.1 C.2.1 hd (lv_at hl n (j_lat G hk)) (kk _ hl)
theorem wp_lload_n {i : Fin 4} (n : Nat) {x : Int} (hd : decode y.2.1 pc = .ok (.lload_n i, 1)) (hk : ls[n]? = some ((i : Nat), jL x)) (k : jWp d y (pc + 1) ls (jL x :: st) h Q) : jWp d y pc ls st h Q := by
  refine jstep (pc' := (pc + 1)) (ls' := ls) (st' := (jL x :: st)) ⟨fun a b => ⟨a, j_st1 b (j_lrg hk a)⟩, fun a b p l e R s m args below meth c G H locs cells slots Z lsl C hS hl kk => ?_⟩ k
  exact lv_lload_n C.1 C.2.1 hd rfl (lv_at hl n (j_lat G hk)) (kk _ hl)
theorem wp_lload {i : Nat} (n : Nat) {x : Int} (hd : decode y.2.1 pc = .ok (.lload i, 2)) (hk : ls[n]? = some (i, jL x)) (k : jWp d y (pc + 2) ls (jL x :: st) h Q) : jWp d y pc ls st h Q := by
  refine jstep (pc' := (pc + 2)) (ls' := ls) (st' := (jL x :: st)) ⟨fun a b => ⟨a, j_st1 b (j_lrg hk a)⟩, fun a b p l e R s m args below meth c G H locs cells slots Z lsl C hS hl kk => ?_⟩ k
  exact lv_lload C.1 C.2.1 hd (lv_at hl n (j_lat G hk)) (kk _ hl)
theorem wp_aload_n {i : Fin 4} (n : Nat) {r : Nat} (hd : decode y.2.1 pc = .ok (.aload_n i, 1)) (hk : ls[n]? = some (((i : Nat)), jR r)) (k : jWp d y (pc + 1) ls (jR r :: st) h Q) : jWp d y pc ls st h Q := by
  refine jstep (pc' := (pc + 1)) (ls' := ls) (st' := (jR r :: st)) ⟨fun a b => ⟨a, j_st1 b (j_lrg hk a)⟩, fun a b p l e R s m args below meth c G H locs cells slots Z lsl C hS hl kk => ?_⟩ k
  have q1 := lv_at hl n (j_lat G hk)
  have g := kk _ hl
  have e2 : lsl[(i : Nat)]? = some (.val (j_rv G r)) := q1
  have g2 : W p l e R s m args below meth c H locs cells slots Z (F0 m (pc + 1) lsl (j_rv G r :: st.map (j_tr G))) := g
  by_cases hz : r = 0
  · rw [hz] at e2 g2
    exact lv_aload_nN C.1 C.2.1 hd rfl e2 g2
  · rw [j_rd1 G hz] at e2 g2
    exact lv_aload_n C.1 C.2.1 hd rfl e2 g2
theorem wp_aload {i : Nat} (n : Nat) {r : Nat} (hd : decode y.2.1 pc = .ok (.aload i, 2)) (hk : ls[n]? = some (i, jR r)) (k : jWp d y (pc + 2) ls (jR r :: st) h Q) : jWp d y pc ls st h Q := by
  refine jstep (pc' := (pc + 2)) (ls' := ls) (st' := (jR r :: st)) ⟨fun a b => ⟨a, j_st1 b (j_lrg hk a)⟩, fun a b p l e R s m args below meth c G H locs cells slots Z lsl C hS hl kk => ?_⟩ k
  have q1 := lv_at hl n (j_lat G hk)
  have g := kk _ hl
  have e2 : lsl[(i : Nat)]? = some (.val (j_rv G r)) := q1
  have g2 : W p l e R s m args below meth c H locs cells slots Z (F0 m (pc + 2) lsl (j_rv G r :: st.map (j_tr G))) := g
  by_cases hz : r = 0
  · rw [hz] at e2 g2
    exact lv_aloadN C.1 C.2.1 hd  e2 g2
  · rw [j_rd1 G hz] at e2 g2
    exact lv_aload C.1 C.2.1 hd  e2 g2
theorem wp_iadd {x z : Int} (hd : decode y.2.1 pc = .ok (.iadd, 1)) (hr : j32 (x + z)) (k : jWp d y (pc + 1) ls (jI (x + z) :: st) h Q) : jWp d y pc ls (jI z :: jI x :: st) h Q := by
  refine jstep (pc' := (pc + 1)) (ls' := ls) (st' := (jI (x + z) :: st)) ⟨fun a b => ⟨a, j_st1 (v := jI (x + z)) (fun v hv => b v (List.mem_cons_of_mem _ (List.mem_cons_of_mem _ hv))) hr⟩, fun a b p l e R s m args below meth c G H locs cells slots Z lsl C hS hl kk => ?_⟩ k
  refine lv_iadd C.1 C.2.1 hd ?_
  rw [j_add (b (jI x) (by simp)) (b (jI z) (by simp)) hr]
  exact kk _ hl
theorem wp_isub {x z : Int} (hd : decode y.2.1 pc = .ok (.isub, 1)) (hr : j32 (x - z)) (k : jWp d y (pc + 1) ls (jI (x - z) :: st) h Q) : jWp d y pc ls (jI z :: jI x :: st) h Q := by
  refine jstep (pc' := (pc + 1)) (ls' := ls) (st' := (jI (x - z) :: st)) ⟨fun a b => ⟨a, j_st1 (v := jI (x - z)) (fun v hv => b v (List.mem_cons_of_mem _ (List.mem_cons_of_mem _ hv))) hr⟩, fun a b p l e R s m args below meth c G H locs cells slots Z lsl C hS hl kk => ?_⟩ k
  refine lv_isub C.1 C.2.1 hd ?_
  rw [j_sub (b (jI x) (by simp)) (b (jI z) (by simp)) hr]
  exact kk _ hl
theorem wp_imul {x z : Int} (hd : decode y.2.1 pc = .ok (.imul, 1)) (hr : j32 (x * z)) (k : jWp d y (pc + 1) ls (jI (x * z) :: st) h Q) : jWp d y pc ls (jI z :: jI x :: st) h Q := by
  refine jstep (pc' := (pc + 1)) (ls' := ls) (st' := (jI (x * z) :: st)) ⟨fun a b => ⟨a, j_st1 (v := jI (x * z)) (fun v hv => b v (List.mem_cons_of_mem _ (List.mem_cons_of_mem _ hv))) hr⟩, fun a b p l e R s m args below meth c G H locs cells slots Z lsl C hS hl kk => ?_⟩ k
  refine lv_imul C.1 C.2.1 hd ?_
  rw [j_mul (b (jI x) (by simp)) (b (jI z) (by simp)) hr]
  exact kk _ hl
theorem wp_idiv {x z : Int} (hd : decode y.2.1 pc = .ok (.idiv, 1)) (h0 : 0 ≤ x) (h1 : 0 < z) (k : jWp d y (pc + 1) ls (jI (x / z) :: st) h Q) : jWp d y pc ls (jI z :: jI x :: st) h Q := by
  refine jstep (pc' := (pc + 1)) (ls' := ls) (st' := (jI (x / z) :: st)) ⟨fun a b => ⟨a, j_st1 (v := jI (x / z)) (fun v hv => b v (List.mem_cons_of_mem _ (List.mem_cons_of_mem _ hv))) (j_div_rg (b (jI x) (by simp)) h0 h1)⟩, fun a b p l e R s m args below meth c G H locs cells slots Z lsl C hS hl kk => ?_⟩ k
  refine lv_idiv C.1 C.2.1 hd (j_ne0 (b (jI z) (by simp)) (by omega)) ?_
  rw [j_div (b (jI x) (by simp)) (b (jI z) (by simp)) h0 h1]
  exact kk _ hl
theorem wp_irem {x z : Int} (hd : decode y.2.1 pc = .ok (.irem, 1)) (h0 : 0 ≤ x) (h1 : 0 < z) (k : jWp d y (pc + 1) ls (jI (x % z) :: st) h Q) : jWp d y pc ls (jI z :: jI x :: st) h Q := by
  refine jstep (pc' := (pc + 1)) (ls' := ls) (st' := (jI (x % z) :: st)) ⟨fun a b => ⟨a, j_st1 (v := jI (x % z)) (fun v hv => b v (List.mem_cons_of_mem _ (List.mem_cons_of_mem _ hv))) (j_mod_rg (b (jI z) (by simp)) h1)⟩, fun a b p l e R s m args below meth c G H locs cells slots Z lsl C hS hl kk => ?_⟩ k
  refine lv_irem C.1 C.2.1 hd (j_ne0 (b (jI z) (by simp)) (by omega)) ?_
  rw [j_rem (b (jI x) (by simp)) (b (jI z) (by simp)) h1, Int.tmod_eq_emod_of_nonneg h0]
  exact kk _ hl
theorem wp_iremT {x z : Int} (hd : decode y.2.1 pc = .ok (.irem, 1)) (h1 : 0 < z) (k : jWp d y (pc + 1) ls (jI (x.tmod z) :: st) h Q) : jWp d y pc ls (jI z :: jI x :: st) h Q := by
  refine jstep (pc' := (pc + 1)) (ls' := ls) (st' := (jI (x.tmod z) :: st)) ⟨fun a b => ⟨a, j_st1 (v := jI (x.tmod z)) (fun v hv => b v (List.mem_cons_of_mem _ (List.mem_cons_of_mem _ hv))) (j_tmod_rg (b (jI z) (by simp)) h1)⟩, fun a b p l e R s m args below meth c G H locs cells slots Z lsl C hS hl kk => ?_⟩ k
  refine lv_irem C.1 C.2.1 hd (j_ne0 (b (jI z) (by simp)) (by omega)) ?_
  rw [j_rem (b (jI x) (by simp)) (b (jI z) (by simp)) h1]
  exact kk _ hl
theorem wp_ladd {x z : Int} (hd : decode y.2.1 pc = .ok (.ladd, 1)) (hr : j64 (x + z)) (k : jWp d y (pc + 1) ls (jL (x + z) :: st) h Q) : jWp d y pc ls (jL z :: jL x :: st) h Q := by
  refine jstep (pc' := (pc + 1)) (ls' := ls) (st' := (jL (x + z) :: st)) ⟨fun a b => ⟨a, j_st1 (v := jL (x + z)) (fun v hv => b v (List.mem_cons_of_mem _ (List.mem_cons_of_mem _ hv))) hr⟩, fun a b p l e R s m args below meth c G H locs cells slots Z lsl C hS hl kk => ?_⟩ k
  refine lv_ladd C.1 C.2.1 hd ?_
  rw [j_addL (b (jL x) (by simp)) (b (jL z) (by simp)) hr]
  exact kk _ hl
theorem wp_lmul {x z : Int} (hd : decode y.2.1 pc = .ok (.lmul, 1)) (hr : j64 (x * z)) (k : jWp d y (pc + 1) ls (jL (x * z) :: st) h Q) : jWp d y pc ls (jL z :: jL x :: st) h Q := by
  refine jstep (pc' := (pc + 1)) (ls' := ls) (st' := (jL (x * z) :: st)) ⟨fun a b => ⟨a, j_st1 (v := jL (x * z)) (fun v hv => b v (List.mem_cons_of_mem _ (List.mem_cons_of_mem _ hv))) hr⟩, fun a b p l e R s m args below meth c G H locs cells slots Z lsl C hS hl kk => ?_⟩ k
  refine lv_lmul C.1 C.2.1 hd ?_
  rw [j_mulL (b (jL x) (by simp)) (b (jL z) (by simp)) hr]
  exact kk _ hl
theorem wp_i2l {x : Int} (hd : decode y.2.1 pc = .ok (.i2l, 1)) (k : jWp d y (pc + 1) ls (jL x :: st) h Q) : jWp d y pc ls (jI x :: st) h Q := by
  refine jstep (pc' := (pc + 1)) (ls' := ls) (st' := (jL x :: st)) ⟨fun a b => ⟨a, j_st1 (v := jL x) (fun v hv => b v (List.mem_cons_of_mem _ hv)) (j_32_64 (b (jI x) (by simp)))⟩, fun a b p l e R s m args below meth c G H locs cells slots Z lsl C hS hl kk => ?_⟩ k
  refine lv_i2l (v := Int64.ofInt x) C.1 C.2.1 hd (j_eqL ?_) (kk _ hl)
  rw [Int32.toInt_toInt64, j_ti (b (jI x) (by simp))]
theorem wp_l2i {x : Int} (hd : decode y.2.1 pc = .ok (.l2i, 1)) (hr : j32 x) (k : jWp d y (pc + 1) ls (jI x :: st) h Q) : jWp d y pc ls (jL x :: st) h Q := by
  refine jstep (pc' := (pc + 1)) (ls' := ls) (st' := (jI x :: st)) ⟨fun a b => ⟨a, j_st1 (v := jI x) (fun v hv => b v (List.mem_cons_of_mem _ hv)) hr⟩, fun a b p l e R s m args below meth c G H locs cells slots Z lsl C hS hl kk => ?_⟩ k
  refine lv_l2i (v := Int32.ofInt x) C.1 C.2.1 hd (j_eqI ?_) (kk _ hl)
  rw [Int64.toInt_toInt32, j_tL (b (jL x) (by simp))]
  exact Int.bmod_eq_of_le (by have := hr.1; omega) (by have := hr.2; omega)
theorem wp_i2b {x : Int} (hd : decode y.2.1 pc = .ok (.i2b, 1)) (k : jWp d y (pc + 1) ls (jI ((x + 128) % 256 - 128) :: st) h Q) : jWp d y pc ls (jI x :: st) h Q := by
  refine jstep (pc' := (pc + 1)) (ls' := ls) (st' := (jI ((x + 128) % 256 - 128) :: st)) ⟨fun a b => ⟨a, j_st1 (v := jI ((x + 128) % 256 - 128)) (fun v hv => b v (List.mem_cons_of_mem _ hv)) ⟨by omega, by omega⟩⟩, fun a b p l e R s m args below meth c G H locs cells slots Z lsl C hS hl kk => ?_⟩ k
  refine lv_i2b (v := Int32.ofInt ((x + 128) % 256 - 128)) C.1 C.2.1 hd (j_eqI ?_) (kk _ hl)
  rw [Int8.toInt_toInt32, Int32.toInt_toInt8, j_ti (b (jI x) (by simp))]
  simp only [Int.bmod]
  omega
theorem wp_i2c {x : Int} (hd : decode y.2.1 pc = .ok (.i2c, 1)) (h0 : 0 ≤ x) (h1 : x < 65536) (k : jWp d y (pc + 1) ls (jI x :: st) h Q) : jWp d y pc ls (jI x :: st) h Q := by
  refine jstep (pc' := (pc + 1)) (ls' := ls) (st' := (jI x :: st)) ⟨fun a b => ⟨a, b⟩, fun a b p l e R s m args below meth c G H locs cells slots Z lsl C hS hl kk => ?_⟩ k
  refine lv_i2c (v := Int32.ofInt x) C.1 C.2.1 hd ?_ (kk _ hl)
  have e : Int32.ofInt x = nI x.toNat := by
    rw [show x = ((x.toNat : Nat) : Int) from (Int.toNat_of_nonneg h0).symm, Int32.ofInt_eq_ofNat]
    rfl
  rw [e, pk_char, pk_tn (by omega)]
  congr 1
  omega
theorem wp_ishr {x z : Int} (hd : decode y.2.1 pc = .ok (.ishr, 1)) (h0 : 0 ≤ z) (h1 : z < 32) (k : jWp d y (pc + 1) ls (jI (x / 2 ^ z.toNat) :: st) h Q) : jWp d y pc ls (jI z :: jI x :: st) h Q := by
  refine jstep (pc' := (pc + 1)) (ls' := ls) (st' := (jI (x / 2 ^ z.toNat) :: st)) ⟨fun a b => ⟨a, j_st1 (v := jI (x / 2 ^ z.toNat)) (fun v hv => b v (List.mem_cons_of_mem _ (List.mem_cons_of_mem _ hv))) (j_shr_rg (b (jI x) (by simp)))⟩, fun a b p l e R s m args below meth c G H locs cells slots Z lsl C hS hl kk => ?_⟩ k
  refine lv_ishr C.1 C.2.1 hd ?_
  rw [j_shr (b (jI x) (by simp)) h0 h1]
  exact kk _ hl
theorem wp_iand255 {x : Int} (hd : decode y.2.1 pc = .ok (.iand, 1)) (k : jWp d y (pc + 1) ls (jI (x % 256) :: st) h Q) : jWp d y pc ls (jI 255 :: jI x :: st) h Q := by
  refine jstep (pc' := (pc + 1)) (ls' := ls) (st' := (jI (x % 256) :: st)) ⟨fun a b => ⟨a, j_st1 (v := jI (x % 256)) (fun v hv => b v (List.mem_cons_of_mem _ (List.mem_cons_of_mem _ hv))) ⟨by omega, by omega⟩⟩, fun a b p l e R s m args below meth c G H locs cells slots Z lsl C hS hl kk => ?_⟩ k
  refine lv_iand C.1 C.2.1 hd ?_
  rw [show Int32.ofInt x &&& Int32.ofInt 255 = Int32.ofInt (x % 256) from j_and (b (jI x) (by simp)) 8 (by decide)]
  exact kk _ hl
theorem wp_iand1 {x : Int} (hd : decode y.2.1 pc = .ok (.iand, 1)) (k : jWp d y (pc + 1) ls (jI (x % 2) :: st) h Q) : jWp d y pc ls (jI 1 :: jI x :: st) h Q := by
  refine jstep (pc' := (pc + 1)) (ls' := ls) (st' := (jI (x % 2) :: st)) ⟨fun a b => ⟨a, j_st1 (v := jI (x % 2)) (fun v hv => b v (List.mem_cons_of_mem _ (List.mem_cons_of_mem _ hv))) ⟨by omega, by omega⟩⟩, fun a b p l e R s m args below meth c G H locs cells slots Z lsl C hS hl kk => ?_⟩ k
  refine lv_iand C.1 C.2.1 hd ?_
  rw [show Int32.ofInt x &&& Int32.ofInt 1 = Int32.ofInt (x % 2) from j_and (b (jI x) (by simp)) 1 (by decide)]
  exact kk _ hl
theorem wp_iand31 {x : Int} (hd : decode y.2.1 pc = .ok (.iand, 1)) (k : jWp d y (pc + 1) ls (jI (x % 32) :: st) h Q) : jWp d y pc ls (jI 31 :: jI x :: st) h Q := by
  refine jstep (pc' := (pc + 1)) (ls' := ls) (st' := (jI (x % 32) :: st)) ⟨fun a b => ⟨a, j_st1 (v := jI (x % 32)) (fun v hv => b v (List.mem_cons_of_mem _ (List.mem_cons_of_mem _ hv))) ⟨by omega, by omega⟩⟩, fun a b p l e R s m args below meth c G H locs cells slots Z lsl C hS hl kk => ?_⟩ k
  refine lv_iand C.1 C.2.1 hd ?_
  rw [show Int32.ofInt x &&& Int32.ofInt 31 = Int32.ofInt (x % 32) from j_and (b (jI x) (by simp)) 5 (by decide)]
  exact kk _ hl
theorem wp_dup {v : jV} (hd : decode y.2.1 pc = .ok (.dup, 1)) (hc : j_cat v = 1) (k : jWp d y (pc + 1) ls (v :: v :: st) h Q) : jWp d y pc ls (v :: st) h Q := by
  refine jstep (pc' := (pc + 1)) (ls' := ls) (st' := (v :: v :: st)) ⟨fun a b => ⟨a, j_st1 b (b v (by simp))⟩, fun a b p l e R s m args below meth c G H locs cells slots Z lsl C hS hl kk => ?_⟩ k
  exact lv_dup C.1 C.2.1 hd (by rw [j_cat_tr]; exact hc) (kk _ hl)
theorem wp_dup2 {v w : jV} (hd : decode y.2.1 pc = .ok (.dup2, 1)) (hc : j_cat v = 1) (hc2 : j_cat w = 1) (k : jWp d y (pc + 1) ls (v :: w :: v :: w :: st) h Q) : jWp d y pc ls (v :: w :: st) h Q := by
  refine jstep (pc' := (pc + 1)) (ls' := ls) (st' := (v :: w :: v :: w :: st)) ⟨fun a b => ⟨a, j_st1 (j_st1 b (b w (by simp))) (b v (by simp))⟩, fun a b p l e R s m args below meth c G H locs cells slots Z lsl C hS hl kk => ?_⟩ k
  exact lv_dup2_11 C.1 C.2.1 hd (by rw [j_cat_tr]; exact hc) (by rw [j_cat_tr]; exact hc2) (kk _ hl)
theorem wp_pop {v : jV} (hd : decode y.2.1 pc = .ok (.pop, 1)) (hc : j_cat v = 1) (k : jWp d y (pc + 1) ls st h Q) : jWp d y pc ls (v :: st) h Q := by
  refine jstep (pc' := (pc + 1)) (ls' := ls) (st' := st) ⟨fun a b => ⟨a, (fun v hv => b v (List.mem_cons_of_mem _ hv))⟩, fun a b p l e R s m args below meth c G H locs cells slots Z lsl C hS hl kk => ?_⟩ k
  exact lv_pop C.1 C.2.1 hd (by rw [j_cat_tr]; exact hc) (kk _ hl)
theorem wp_goto {off : Int} (tgt : Nat) (hd : decode y.2.1 pc = .ok (.goto off, 3)) (ht : (pc : Int) + off = (tgt : Int)) (k : jWp d y tgt ls st h Q) : jWp d y pc ls st h Q := by
  refine jstep (pc' := tgt) (ls' := ls) (st' := st) ⟨fun a b => ⟨a, b⟩, fun a b p l e R s m args below meth c G H locs cells slots Z lsl C hS hl kk => ?_⟩ k
  exact lv_goto C.1 C.2.1 hd ht (kk _ hl)
theorem wp_ldc {i : Nat} {n : Int} {own : String} (hd : decode y.2.1 pc = .ok (.ldc i, 2)) (hw : Cond.constant own i (Int32.ofInt n) ∈ jW) (ho : y.1.cls = own) (hn : j32 n) (k : jWp d y (pc + 2) ls (jI n :: st) h Q) : jWp d y pc ls st h Q := by
  refine jstep (pc' := (pc + 2)) (ls' := ls) (st' := (jI n :: st)) ⟨fun a b => ⟨a, j_st1 (v := jI n) b hn⟩, fun a b p l e R s m args below meth c G H locs cells slots Z lsl C hS hl kk => ?_⟩ k
  obtain ⟨c1, c2, c3, c4, c5, c6, c7, c8, -⟩ := C
  exact lv_ldc (v := Int32.ofInt n) (own := own) c1 c2 (by rw [← ho]; exact c6) (c8 _ hw) hd (kk _ hl)
theorem wp_ldc_w {i : Nat} {n : Int} {own : String} (hd : decode y.2.1 pc = .ok (.ldc_w i, 3)) (hw : Cond.constant own i (Int32.ofInt n) ∈ jW) (ho : y.1.cls = own) (hn : j32 n) (k : jWp d y (pc + 3) ls (jI n :: st) h Q) : jWp d y pc ls st h Q := by
  refine jstep (pc' := (pc + 3)) (ls' := ls) (st' := (jI n :: st)) ⟨fun a b => ⟨a, j_st1 (v := jI n) b hn⟩, fun a b p l e R s m args below meth c G H locs cells slots Z lsl C hS hl kk => ?_⟩ k
  obtain ⟨c1, c2, c3, c4, c5, c6, c7, c8, -⟩ := C
  exact lv_ldcw (v := Int32.ofInt n) (own := own) c1 c2 (by rw [← ho]; exact c6) (c8 _ hw) hd (kk _ hl)
theorem wp_ldc2 {i : Nat} {n : Int} {own : String} (hd : decode y.2.1 pc = .ok (.ldc2_w i, 3)) (hw : Cond.constantLong own i (Int64.ofInt n) ∈ jW) (ho : y.1.cls = own) (hn : j64 n) (k : jWp d y (pc + 3) ls (jL n :: st) h Q) : jWp d y pc ls st h Q := by
  refine jstep (pc' := (pc + 3)) (ls' := ls) (st' := (jL n :: st)) ⟨fun a b => ⟨a, j_st1 (v := jL n) b hn⟩, fun a b p l e R s m args below meth c G H locs cells slots Z lsl C hS hl kk => ?_⟩ k
  obtain ⟨c1, c2, c3, c4, c5, c6, c7, c8, -⟩ := C
  exact lv_ldc2 (v := Int64.ofInt n) (own := own) c1 c2 (by rw [← ho]; exact c6) (c8 _ hw) hd (kk _ hl)
end PR
