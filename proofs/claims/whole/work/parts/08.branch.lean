/-! stores into the variables, branches -/
def jstL (ls : List (Nat × jV)) (i : Nat) (v : jV) : List (Nat × jV) := (i, v) :: ls.filter (fun q => !(q.1 == i) && !(q.1 + 1 == i && j_cat q.2 == 2))
def jstL2 (ls : List (Nat × jV)) (i : Nat) (v : jV) : List (Nat × jV) := (i, v) :: ls.filter (fun q => !(q.1 == i) && (!(q.1 == i + 1) && !(q.1 + 1 == i && j_cat q.2 == 2)))
def jpick (ls : List (Nat × jV)) (ks : List Nat) : List (Nat × jV) := ks.filterMap (fun k => ls[k]?)
theorem jpick_mem {ls : List (Nat × jV)} {ks : List Nat} {q : Nat × jV} (h : q ∈ jpick ls ks) : q ∈ ls := by
  obtain ⟨k, -, hk⟩ := List.mem_filterMap.mp h
  exact List.mem_of_getElem? hk
theorem jpick_has {ls ls' : List (Nat × jV)} {ks : List Nat} {lsl : Array Slot} {nL : Nat} {G : jG} (h : lv_has lsl nL (ls.map (j_tl G))) (hp : jpick ls ks = ls') : lv_has lsl nL (ls'.map (j_tl G)) := by
  subst hp
  refine ⟨h.1, h.2.1, fun q hq => ?_⟩
  obtain ⟨x, hx, rfl⟩ := List.mem_map.mp hq
  exact h.2.2 _ (List.mem_map.mpr ⟨x, jpick_mem hx, rfl⟩)
theorem jstL_map (G : jG) (ls : List (Nat × jV)) (i : Nat) (v : jV) : (i, j_tr G v) :: (ls.map (j_tl G)).filter (fun q => !(q.1 == i) && !(q.1 + 1 == i && q.2.category == 2)) = (jstL ls i v).map (j_tl G) := by
  simp only [jstL, List.map_cons, List.filter_map]
  congr 2
  refine List.filter_congr fun q _ => ?_
  simp only [Function.comp, j_tl, j_cat_tr]
theorem jstL2_map (G : jG) (ls : List (Nat × jV)) (i : Nat) (v : jV) : (i, j_tr G v) :: (ls.map (j_tl G)).filter (fun q => !(q.1 == i) && (!(q.1 == i + 1) && !(q.1 + 1 == i && q.2.category == 2))) = (jstL2 ls i v).map (j_tl G) := by
  simp only [jstL2, List.map_cons, List.filter_map]
  congr 2
  refine List.filter_congr fun q _ => ?_
  simp only [Function.comp, j_tl, j_cat_tr]
theorem jst_rg {ls : List (Nat × jV)} {i : Nat} {v : jV} (h : ∀ q ∈ ls, j_rg q.2) (hv : j_rg v) : ∀ q ∈ jstL ls i v, j_rg q.2 := List.forall_mem_cons.mpr ⟨hv, fun q hq => h q (List.mem_filter.mp hq).1⟩
theorem jst_rg2 {ls : List (Nat × jV)} {i : Nat} {v : jV} (h : ∀ q ∈ ls, j_rg q.2) (hv : j_rg v) : ∀ q ∈ jstL2 ls i v, j_rg q.2 := List.forall_mem_cons.mpr ⟨hv, fun q hq => h q (List.mem_filter.mp hq).1⟩
section PR
variable {d : Nat} {y : jM} {pc : Nat} {ls : List (Nat × jV)} {st : List jV} {h : jH} {Q : jO → jH → Prop}
/-- fewer variables, in another order -/
theorem wp_sub (ks : List Nat) {ls' : List (Nat × jV)} (hp : jpick ls ks = ls') (k : jWp d y pc ls' st h Q) : jWp d y pc ls st h Q := by
  refine jstep (pc' := pc) (ls' := ls') (st' := st) ⟨fun a b => ⟨fun q hq => a q (jpick_mem (by rw [hp]; exact hq)), b⟩, fun a b p l e R s m args below meth c G H locs cells slots Z lsl C hS hl kk => ?_⟩ k
  exact kk _ (jpick_has hl hp)
theorem wp_istore_n {i : Fin 4} {x : Int} (ks : List Nat) {ls' : List (Nat × jV)} (hd : decode y.2.1 pc = .ok (.istore_n i, 1)) (hn : (i : Nat) < y.2.2.1) (hp : jpick (jstL ls (i : Nat) (jI x)) ks = ls') (k : jWp d y (pc + 1) ls' st h Q) : jWp d y pc ls (jI x :: st) h Q := by
  refine jstep (pc' := (pc + 1)) (ls' := ls') (st' := st) ⟨fun a b => ⟨fun q hq => jst_rg a (b (jI x) (by simp)) q (jpick_mem (by rw [hp]; exact hq)), (fun v hv => b v (List.mem_cons_of_mem _ hv))⟩, fun a b p l e R s m args below meth c G H locs cells slots Z lsl C hS hl kk => ?_⟩ k
  exact lv_istore_n C.1 C.2.1 hd rfl hl hn (jstL_map G ls (i : Nat) (jI x)) (fun lsl' hl' => kk _ (jpick_has hl' hp))
theorem wp_istore {i : Nat} {x : Int} (ks : List Nat) {ls' : List (Nat × jV)} (hd : decode y.2.1 pc = .ok (.istore i, 2)) (hn : (i : Nat) < y.2.2.1) (hp : jpick (jstL ls (i : Nat) (jI x)) ks = ls') (k : jWp d y (pc + 2) ls' st h Q) : jWp d y pc ls (jI x :: st) h Q := by
  refine jstep (pc' := (pc + 2)) (ls' := ls') (st' := st) ⟨fun a b => ⟨fun q hq => jst_rg a (b (jI x) (by simp)) q (jpick_mem (by rw [hp]; exact hq)), (fun v hv => b v (List.mem_cons_of_mem _ hv))⟩, fun a b p l e R s m args below meth c G H locs cells slots Z lsl C hS hl kk => ?_⟩ k
  exact lv_istore C.1 C.2.1 hd hl hn (jstL_map G ls (i : Nat) (jI x)) (fun lsl' hl' => kk _ (jpick_has hl' hp))
theorem wp_lstore_n {i : Fin 4} {x : Int} (ks : List Nat) {ls' : List (Nat × jV)} (hd : decode y.2.1 pc = .ok (.lstore_n i, 1)) (hn : (i : Nat) + 1 < y.2.2.1) (hp : jpick (jstL2 ls (i : Nat) (jL x)) ks = ls') (k : jWp d y (pc + 1) ls' st h Q) : jWp d y pc ls (jL x :: st) h Q := by
  refine jstep (pc' := (pc + 1)) (ls' := ls') (st' := st) ⟨fun a b => ⟨fun q hq => jst_rg2 a (b (jL x) (by simp)) q (jpick_mem (by rw [hp]; exact hq)), (fun v hv => b v (List.mem_cons_of_mem _ hv))⟩, fun a b p l e R s m args below meth c G H locs cells slots Z lsl C hS hl kk => ?_⟩ k
  exact lv_lstore_n C.1 C.2.1 hd rfl hl hn (jstL2_map G ls (i : Nat) (jL x)) (fun lsl' hl' => kk _ (jpick_has hl' hp))
theorem wp_lstore {i : Nat} {x : Int} (ks : List Nat) {ls' : List (Nat × jV)} (hd : decode y.2.1 pc = .ok (.lstore i, 2)) (hn : (i : Nat) + 1 < y.2.2.1) (hp : jpick (jstL2 ls (i : Nat) (jL x)) ks = ls') (k : jWp d y (pc + 2) ls' st h Q) : jWp d y pc ls (jL x :: st) h Q := by
  refine jstep (pc' := (pc + 2)) (ls' := ls') (st' := st) ⟨fun a b => ⟨fun q hq => jst_rg2 a (b (jL x) (by simp)) q (jpick_mem (by rw [hp]; exact hq)), (fun v hv => b v (List.mem_cons_of_mem _ hv))⟩, fun a b p l e R s m args below meth c G H locs cells slots Z lsl C hS hl kk => ?_⟩ k
  exact lv_lstore C.1 C.2.1 hd hl hn (jstL2_map G ls (i : Nat) (jL x)) (fun lsl' hl' => kk _ (jpick_has hl' hp))
theorem wp_astore_n {i : Fin 4} {x : Nat} (ks : List Nat) {ls' : List (Nat × jV)} (hd : decode y.2.1 pc = .ok (.astore_n i, 1)) (hn : (i : Nat) < y.2.2.1) (hp : jpick (jstL ls (i : Nat) (jR x)) ks = ls') (k : jWp d y (pc + 1) ls' st h Q) : jWp d y pc ls (jR x :: st) h Q := by
  refine jstep (pc' := (pc + 1)) (ls' := ls') (st' := st) ⟨fun a b => ⟨fun q hq => jst_rg a (b (jR x) (by simp)) q (jpick_mem (by rw [hp]; exact hq)), (fun v hv => b v (List.mem_cons_of_mem _ hv))⟩, fun a b p l e R s m args below meth c G H locs cells slots Z lsl C hS hl kk => ?_⟩ k
  have kk2 : ∀ lsl' : Array Slot, lv_has lsl' y.2.2.1 ((jstL ls (i : Nat) (jR x)).map (j_tl G)) → W p l e R s m args below meth c H locs cells slots Z (F0 m (pc + 1) lsl' (st.map (j_tr G))) := fun lsl' hl' => kk _ (jpick_has hl' hp)
  have e3 := jstL_map G ls (i : Nat) (jR x)
  show W p l e R s m args below meth c H locs cells slots Z (F0 m pc lsl (j_rv G x :: st.map (j_tr G)))
  by_cases hz : x = 0
  · have e4 : j_tr G (jR x) = .null := if_pos hz
    rw [e4] at e3
    rw [show j_rv G x = .null from if_pos hz]
    exact lv_astore_nN C.1 C.2.1 hd rfl hl hn e3 kk2
  · have e4 : j_tr G (jR x) = .ref (j_ad G x) := if_neg hz
    rw [e4] at e3
    rw [j_rd1 G hz]
    exact lv_astore_n C.1 C.2.1 hd rfl hl hn e3 kk2
theorem wp_astore {i : Nat} {x : Nat} (ks : List Nat) {ls' : List (Nat × jV)} (hd : decode y.2.1 pc = .ok (.astore i, 2)) (hn : (i : Nat) < y.2.2.1) (hp : jpick (jstL ls (i : Nat) (jR x)) ks = ls') (k : jWp d y (pc + 2) ls' st h Q) : jWp d y pc ls (jR x :: st) h Q := by
  refine jstep (pc' := (pc + 2)) (ls' := ls') (st' := st) ⟨fun a b => ⟨fun q hq => jst_rg a (b (jR x) (by simp)) q (jpick_mem (by rw [hp]; exact hq)), (fun v hv => b v (List.mem_cons_of_mem _ hv))⟩, fun a b p l e R s m args below meth c G H locs cells slots Z lsl C hS hl kk => ?_⟩ k
  have kk2 : ∀ lsl' : Array Slot, lv_has lsl' y.2.2.1 ((jstL ls (i : Nat) (jR x)).map (j_tl G)) → W p l e R s m args below meth c H locs cells slots Z (F0 m (pc + 2) lsl' (st.map (j_tr G))) := fun lsl' hl' => kk _ (jpick_has hl' hp)
  have e3 := jstL_map G ls (i : Nat) (jR x)
  show W p l e R s m args below meth c H locs cells slots Z (F0 m pc lsl (j_rv G x :: st.map (j_tr G)))
  by_cases hz : x = 0
  · have e4 : j_tr G (jR x) = .null := if_pos hz
    rw [e4] at e3
    rw [show j_rv G x = .null from if_pos hz]
    exact lv_astoreN C.1 C.2.1 hd hl hn e3 kk2
  · have e4 : j_tr G (jR x) = .ref (j_ad G x) := if_neg hz
    rw [e4] at e3
    rw [j_rd1 G hz]
    exact lv_astore C.1 C.2.1 hd hl hn e3 kk2
theorem wp_iinc {i : Nat} {n x : Int} (n0 : Nat) (ks : List Nat) {ls' : List (Nat × jV)} (hd : decode y.2.1 pc = .ok (.iinc i n, 3)) (hk : ls[n0]? = some (i, jI x)) (hr : j32 (x + n)) (hc : j32 n) (hn : i < y.2.2.1) (hp : jpick (jstL ls i (jI (x + n))) ks = ls') (k : jWp d y (pc + 3) ls' st h Q) : jWp d y pc ls st h Q := by
  refine jstep (pc' := (pc + 3)) (ls' := ls') (st' := st) ⟨fun a b => ⟨fun q hq => jst_rg a (show j_rg (jI (x + n)) from hr) q (jpick_mem (by rw [hp]; exact hq)), b⟩, fun a b p l e R s m args below meth c G H locs cells slots Z lsl C hS hl kk => ?_⟩ k
  refine lv_iinc (v := Int32.ofInt (x + n)) C.1 C.2.1 hd hl (j_lat G hk) ?_ hn (jstL_map G ls i (jI (x + n))) (fun lsl' hl' => kk _ (jpick_has hl' hp))
  exact j_add (j_lrg hk a) hc hr
theorem wp_icmp_ne {x z off : Int} (tgt : Nat) (hd : decode y.2.1 pc = .ok (.if_icmp .ne off, 3)) (ht : (pc : Int) + off = (tgt : Int)) (kt : x ≠ z → jWp d y tgt ls st h Q) (kf : x = z → jWp d y (pc + 3) ls st h Q) : jWp d y pc ls (jI z :: jI x :: st) h Q := by
  by_cases hc : x = z
  · refine jstep (pc' := pc + 3) (ls' := ls) (st' := st) ⟨fun a b => ⟨a, (fun v hv => b v (List.mem_cons_of_mem _ (List.mem_cons_of_mem _ hv)))⟩, fun a b p l e R s m args below meth c G H locs cells slots Z lsl C hS hl kk => ?_⟩ (kf hc)
    have rx : j32 x := b (jI x) (by simp)
    have rz : j32 z := b (jI z) (by simp)
    exact lv_icmp_ne C.1 C.2.1 hd ht (fun q => absurd ((j_eq rx rz).mpr hc) q) (fun _ => kk _ hl)
  · refine jstep (pc' := tgt) (ls' := ls) (st' := st) ⟨fun a b => ⟨a, (fun v hv => b v (List.mem_cons_of_mem _ (List.mem_cons_of_mem _ hv)))⟩, fun a b p l e R s m args below meth c G H locs cells slots Z lsl C hS hl kk => ?_⟩ (kt hc)
    have rx : j32 x := b (jI x) (by simp)
    have rz : j32 z := b (jI z) (by simp)
    exact lv_icmp_ne C.1 C.2.1 hd ht (fun _ => kk _ hl) (fun q => absurd ((j_eq rx rz).mp q) hc)
theorem wp_if_ne {x off : Int} (tgt : Nat) (hd : decode y.2.1 pc = .ok (.ifCond .ne off, 3)) (ht : (pc : Int) + off = (tgt : Int)) (kt : x ≠ 0 → jWp d y tgt ls st h Q) (kf : x = 0 → jWp d y (pc + 3) ls st h Q) : jWp d y pc ls (jI x :: st) h Q := by
  by_cases hc : x = 0
  · refine jstep (pc' := pc + 3) (ls' := ls) (st' := st) ⟨fun a b => ⟨a, (fun v hv => b v (List.mem_cons_of_mem _ hv))⟩, fun a b p l e R s m args below meth c G H locs cells slots Z lsl C hS hl kk => ?_⟩ (kf hc)
    have rx : j32 x := b (jI x) (by simp)
    exact lv_if_ne C.1 C.2.1 hd ht (fun q => absurd ((j_eq rx j_r0).mpr hc) q) (fun _ => kk _ hl)
  · refine jstep (pc' := tgt) (ls' := ls) (st' := st) ⟨fun a b => ⟨a, (fun v hv => b v (List.mem_cons_of_mem _ hv))⟩, fun a b p l e R s m args below meth c G H locs cells slots Z lsl C hS hl kk => ?_⟩ (kt hc)
    have rx : j32 x := b (jI x) (by simp)
    exact lv_if_ne C.1 C.2.1 hd ht (fun _ => kk _ hl) (fun q => absurd ((j_eq rx j_r0).mp q) hc)
theorem wp_icmp_eq {x z off : Int} (tgt : Nat) (hd : decode y.2.1 pc = .ok (.if_icmp .eq off, 3)) (ht : (pc : Int) + off = (tgt : Int)) (kt : x = z → jWp d y tgt ls st h Q) (kf : ¬ (x = z) → jWp d y (pc + 3) ls st h Q) : jWp d y pc ls (jI z :: jI x :: st) h Q := by
  by_cases hc : x = z
  · refine jstep (pc' := tgt) (ls' := ls) (st' := st) ⟨fun a b => ⟨a, (fun v hv => b v (List.mem_cons_of_mem _ (List.mem_cons_of_mem _ hv)))⟩, fun a b p l e R s m args below meth c G H locs cells slots Z lsl C hS hl kk => ?_⟩ (kt hc)
    have rx : j32 x := b (jI x) (by simp)
    have rz : j32 z := b (jI z) (by simp)
    exact lv_icmp_eq C.1 C.2.1 hd ht (fun _ => kk _ hl) (fun q => absurd ((j_eq rx rz).mpr hc) q)
  · refine jstep (pc' := pc + 3) (ls' := ls) (st' := st) ⟨fun a b => ⟨a, (fun v hv => b v (List.mem_cons_of_mem _ (List.mem_cons_of_mem _ hv)))⟩, fun a b p l e R s m args below meth c G H locs cells slots Z lsl C hS hl kk => ?_⟩ (kf hc)
    have rx : j32 x := b (jI x) (by simp)
    have rz : j32 z := b (jI z) (by simp)
    exact lv_icmp_eq C.1 C.2.1 hd ht (fun q => absurd ((j_eq rx rz).mp q) hc) (fun _ => kk _ hl)
theorem wp_if_eq {x off : Int} (tgt : Nat) (hd : decode y.2.1 pc = .ok (.ifCond .eq off, 3)) (ht : (pc : Int) + off = (tgt : Int)) (kt : x = 0 → jWp d y tgt ls st h Q) (kf : ¬ (x = 0) → jWp d y (pc + 3) ls st h Q) : jWp d y pc ls (jI x :: st) h Q := by
  by_cases hc : x = 0
  · refine jstep (pc' := tgt) (ls' := ls) (st' := st) ⟨fun a b => ⟨a, (fun v hv => b v (List.mem_cons_of_mem _ hv))⟩, fun a b p l e R s m args below meth c G H locs cells slots Z lsl C hS hl kk => ?_⟩ (kt hc)
    have rx : j32 x := b (jI x) (by simp)
    exact lv_if_eq C.1 C.2.1 hd ht (fun _ => kk _ hl) (fun q => absurd ((j_eq rx j_r0).mpr hc) q)
  · refine jstep (pc' := pc + 3) (ls' := ls) (st' := st) ⟨fun a b => ⟨a, (fun v hv => b v (List.mem_cons_of_mem _ hv))⟩, fun a b p l e R s m args below meth c G H locs cells slots Z lsl C hS hl kk => ?_⟩ (kf hc)
    have rx : j32 x := b (jI x) (by simp)
    exact lv_if_eq C.1 C.2.1 hd ht (fun q => absurd ((j_eq rx j_r0).mp q) hc) (fun _ => kk _ hl)
theorem wp_icmp_lt {x z off : Int} (tgt : Nat) (hd : decode y.2.1 pc = .ok (.if_icmp .lt off, 3)) (ht : (pc : Int) + off = (tgt : Int)) (kt : x < z → jWp d y tgt ls st h Q) (kf : ¬ (x < z) → jWp d y (pc + 3) ls st h Q) : jWp d y pc ls (jI z :: jI x :: st) h Q := by
  by_cases hc : x < z
  · refine jstep (pc' := tgt) (ls' := ls) (st' := st) ⟨fun a b => ⟨a, (fun v hv => b v (List.mem_cons_of_mem _ (List.mem_cons_of_mem _ hv)))⟩, fun a b p l e R s m args below meth c G H locs cells slots Z lsl C hS hl kk => ?_⟩ (kt hc)
    have rx : j32 x := b (jI x) (by simp)
    have rz : j32 z := b (jI z) (by simp)
    exact lv_icmp_lt C.1 C.2.1 hd ht (fun _ => kk _ hl) (fun q => absurd ((j_lt rx rz).mpr hc) q)
  · refine jstep (pc' := pc + 3) (ls' := ls) (st' := st) ⟨fun a b => ⟨a, (fun v hv => b v (List.mem_cons_of_mem _ (List.mem_cons_of_mem _ hv)))⟩, fun a b p l e R s m args below meth c G H locs cells slots Z lsl C hS hl kk => ?_⟩ (kf hc)
    have rx : j32 x := b (jI x) (by simp)
    have rz : j32 z := b (jI z) (by simp)
    exact lv_icmp_lt C.1 C.2.1 hd ht (fun q => absurd ((j_lt rx rz).mp q) hc) (fun _ => kk _ hl)
theorem wp_if_lt {x off : Int} (tgt : Nat) (hd : decode y.2.1 pc = .ok (.ifCond .lt off, 3)) (ht : (pc : Int) + off = (tgt : Int)) (kt : x < 0 → jWp d y tgt ls st h Q) (kf : ¬ (x < 0) → jWp d y (pc + 3) ls st h Q) : jWp d y pc ls (jI x :: st) h Q := by
  by_cases hc : x < 0
  · refine jstep (pc' := tgt) (ls' := ls) (st' := st) ⟨fun a b => ⟨a, (fun v hv => b v (List.mem_cons_of_mem _ hv))⟩, fun a b p l e R s m args below meth c G H locs cells slots Z lsl C hS hl kk => ?_⟩ (kt hc)
    have rx : j32 x := b (jI x) (by simp)
    exact lv_if_lt C.1 C.2.1 hd ht (fun _ => kk _ hl) (fun q => absurd ((j_lt rx j_r0).mpr hc) q)
  · refine jstep (pc' := pc + 3) (ls' := ls) (st' := st) ⟨fun a b => ⟨a, (fun v hv => b v (List.mem_cons_of_mem _ hv))⟩, fun a b p l e R s m args below meth c G H locs cells slots Z lsl C hS hl kk => ?_⟩ (kf hc)
    have rx : j32 x := b (jI x) (by simp)
    exact lv_if_lt C.1 C.2.1 hd ht (fun q => absurd ((j_lt rx j_r0).mp q) hc) (fun _ => kk _ hl)
theorem wp_icmp_ge {x z off : Int} (tgt : Nat) (hd : decode y.2.1 pc = .ok (.if_icmp .ge off, 3)) (ht : (pc : Int) + off = (tgt : Int)) (kt : z ≤ x → jWp d y tgt ls st h Q) (kf : ¬ (z ≤ x) → jWp d y (pc + 3) ls st h Q) : jWp d y pc ls (jI z :: jI x :: st) h Q := by
  by_cases hc : z ≤ x
  · refine jstep (pc' := tgt) (ls' := ls) (st' := st) ⟨fun a b => ⟨a, (fun v hv => b v (List.mem_cons_of_mem _ (List.mem_cons_of_mem _ hv)))⟩, fun a b p l e R s m args below meth c G H locs cells slots Z lsl C hS hl kk => ?_⟩ (kt hc)
    have rx : j32 x := b (jI x) (by simp)
    have rz : j32 z := b (jI z) (by simp)
    exact lv_icmp_ge C.1 C.2.1 hd ht (fun _ => kk _ hl) (fun q => absurd ((j_le rz rx).mpr hc) q)
  · refine jstep (pc' := pc + 3) (ls' := ls) (st' := st) ⟨fun a b => ⟨a, (fun v hv => b v (List.mem_cons_of_mem _ (List.mem_cons_of_mem _ hv)))⟩, fun a b p l e R s m args below meth c G H locs cells slots Z lsl C hS hl kk => ?_⟩ (kf hc)
    have rx : j32 x := b (jI x) (by simp)
    have rz : j32 z := b (jI z) (by simp)
    exact lv_icmp_ge C.1 C.2.1 hd ht (fun q => absurd ((j_le rz rx).mp q) hc) (fun _ => kk _ hl)
theorem wp_if_ge {x off : Int} (tgt : Nat) (hd : decode y.2.1 pc = .ok (.ifCond .ge off, 3)) (ht : (pc : Int) + off = (tgt : Int)) (kt : 0 ≤ x → jWp d y tgt ls st h Q) (kf : ¬ (0 ≤ x) → jWp d y (pc + 3) ls st h Q) : jWp d y pc ls (jI x :: st) h Q := by
  by_cases hc : 0 ≤ x
  · refine jstep (pc' := tgt) (ls' := ls) (st' := st) ⟨fun a b => ⟨a, (fun v hv => b v (List.mem_cons_of_mem _ hv))⟩, fun a b p l e R s m args below meth c G H locs cells slots Z lsl C hS hl kk => ?_⟩ (kt hc)
    have rx : j32 x := b (jI x) (by simp)
    exact lv_if_ge C.1 C.2.1 hd ht (fun _ => kk _ hl) (fun q => absurd ((j_le j_r0 rx).mpr hc) q)
  · refine jstep (pc' := pc + 3) (ls' := ls) (st' := st) ⟨fun a b => ⟨a, (fun v hv => b v (List.mem_cons_of_mem _ hv))⟩, fun a b p l e R s m args below meth c G H locs cells slots Z lsl C hS hl kk => ?_⟩ (kf hc)
    have rx : j32 x := b (jI x) (by simp)
    exact lv_if_ge C.1 C.2.1 hd ht (fun q => absurd ((j_le j_r0 rx).mp q) hc) (fun _ => kk _ hl)
theorem wp_icmp_gt {x z off : Int} (tgt : Nat) (hd : decode y.2.1 pc = .ok (.if_icmp .gt off, 3)) (ht : (pc : Int) + off = (tgt : Int)) (kt : z < x → jWp d y tgt ls st h Q) (kf : ¬ (z < x) → jWp d y (pc + 3) ls st h Q) : jWp d y pc ls (jI z :: jI x :: st) h Q := by
  by_cases hc : z < x
  · refine jstep (pc' := tgt) (ls' := ls) (st' := st) ⟨fun a b => ⟨a, (fun v hv => b v (List.mem_cons_of_mem _ (List.mem_cons_of_mem _ hv)))⟩, fun a b p l e R s m args below meth c G H locs cells slots Z lsl C hS hl kk => ?_⟩ (kt hc)
    have rx : j32 x := b (jI x) (by simp)
    have rz : j32 z := b (jI z) (by simp)
    exact lv_icmp_gt C.1 C.2.1 hd ht (fun _ => kk _ hl) (fun q => absurd ((j_lt rz rx).mpr hc) q)
  · refine jstep (pc' := pc + 3) (ls' := ls) (st' := st) ⟨fun a b => ⟨a, (fun v hv => b v (List.mem_cons_of_mem _ (List.mem_cons_of_mem _ hv)))⟩, fun a b p l e R s m args below meth c G H locs cells slots Z lsl C hS hl kk => ?_⟩ (kf hc)
    have rx : j32 x := b (jI x) (by simp)
    have rz : j32 z := b (jI z) (by simp)
    exact lv_icmp_gt C.1 C.2.1 hd ht (fun q => absurd ((j_lt rz rx).mp q) hc) (fun _ => kk _ hl)
theorem wp_if_gt {x off : Int} (tgt : Nat) (hd : decode y.2.1 pc = .ok (.ifCond .gt off, 3)) (ht : (pc : Int) + off = (tgt : Int)) (kt : 0 < x → jWp d y tgt ls st h Q) (kf : ¬ (0 < x) → jWp d y (pc + 3) ls st h Q) : jWp d y pc ls (jI x :: st) h Q := by
  by_cases hc : 0 < x
  · refine jstep (pc' := tgt) (ls' := ls) (st' := st) ⟨fun a b => ⟨a, (fun v hv => b v (List.mem_cons_of_mem _ hv))⟩, fun a b p l e R s m args below meth c G H locs cells slots Z lsl C hS hl kk => ?_⟩ (kt hc)
    have rx : j32 x := b (jI x) (by simp)
    exact lv_if_gt C.1 C.2.1 hd ht (fun _ => kk _ hl) (fun q => absurd ((j_lt j_r0 rx).mpr hc) q)
  · refine jstep (pc' := pc + 3) (ls' := ls) (st' := st) ⟨fun a b => ⟨a, (fun v hv => b v (List.mem_cons_of_mem _ hv))⟩, fun a b p l e R s m args below meth c G H locs cells slots Z lsl C hS hl kk => ?_⟩ (kf hc)
    have rx : j32 x := b (jI x) (by simp)
    exact lv_if_gt C.1 C.2.1 hd ht (fun q => absurd ((j_lt j_r0 rx).mp q) hc) (fun _ => kk _ hl)
theorem wp_icmp_le {x z off : Int} (tgt : Nat) (hd : decode y.2.1 pc = .ok (.if_icmp .le off, 3)) (ht : (pc : Int) + off = (tgt : Int)) (kt : x ≤ z → jWp d y tgt ls st h Q) (kf : ¬ (x ≤ z) → jWp d y (pc + 3) ls st h Q) : jWp d y pc ls (jI z :: jI x :: st) h Q := by
  by_cases hc : x ≤ z
  · refine jstep (pc' := tgt) (ls' := ls) (st' := st) ⟨fun a b => ⟨a, (fun v hv => b v (List.mem_cons_of_mem _ (List.mem_cons_of_mem _ hv)))⟩, fun a b p l e R s m args below meth c G H locs cells slots Z lsl C hS hl kk => ?_⟩ (kt hc)
    have rx : j32 x := b (jI x) (by simp)
    have rz : j32 z := b (jI z) (by simp)
    exact lv_icmp_le C.1 C.2.1 hd ht (fun _ => kk _ hl) (fun q => absurd ((j_le rx rz).mpr hc) q)
  · refine jstep (pc' := pc + 3) (ls' := ls) (st' := st) ⟨fun a b => ⟨a, (fun v hv => b v (List.mem_cons_of_mem _ (List.mem_cons_of_mem _ hv)))⟩, fun a b p l e R s m args below meth c G H locs cells slots Z lsl C hS hl kk => ?_⟩ (kf hc)
    have rx : j32 x := b (jI x) (by simp)
    have rz : j32 z := b (jI z) (by simp)
    exact lv_icmp_le C.1 C.2.1 hd ht (fun q => absurd ((j_le rx rz).mp q) hc) (fun _ => kk _ hl)
theorem wp_if_le {x off : Int} (tgt : Nat) (hd : decode y.2.1 pc = .ok (.ifCond .le off, 3)) (ht : (pc : Int) + off = (tgt : Int)) (kt : x ≤ 0 → jWp d y tgt ls st h Q) (kf : ¬ (x ≤ 0) → jWp d y (pc + 3) ls st h Q) : jWp d y pc ls (jI x :: st) h Q := by
  by_cases hc : x ≤ 0
  · refine jstep (pc' := tgt) (ls' := ls) (st' := st) ⟨fun a b => ⟨a, (fun v hv => b v (List.mem_cons_of_mem _ hv))⟩, fun a b p l e R s m args below meth c G H locs cells slots Z lsl C hS hl kk => ?_⟩ (kt hc)
    have rx : j32 x := b (jI x) (by simp)
    exact lv_if_le C.1 C.2.1 hd ht (fun _ => kk _ hl) (fun q => absurd ((j_le rx j_r0).mpr hc) q)
  · refine jstep (pc' := pc + 3) (ls' := ls) (st' := st) ⟨fun a b => ⟨a, (fun v hv => b v (List.mem_cons_of_mem _ hv))⟩, fun a b p l e R s m args below meth c G H locs cells slots Z lsl C hS hl kk => ?_⟩ (kf hc)
    have rx : j32 x := b (jI x) (by simp)
    exact lv_if_le C.1 C.2.1 hd ht (fun q => absurd ((j_le rx j_r0).mp q) hc) (fun _ => kk _ hl)
theorem wp_ifnull {r : Nat} {off : Int} (tgt : Nat) (hd : decode y.2.1 pc = .ok (.ifnull off, 3)) (ht : (pc : Int) + off = (tgt : Int)) (kt : r = 0 → jWp d y tgt ls st h Q) (kf : ¬ (r = 0) → jWp d y (pc + 3) ls st h Q) : jWp d y pc ls (jR r :: st) h Q := by
  by_cases hc : r = 0
  · refine jstep (pc' := tgt) (ls' := ls) (st' := st) ⟨fun a b => ⟨a, (fun v hv => b v (List.mem_cons_of_mem _ hv))⟩, fun a b p l e R s m args below meth c G H locs cells slots Z lsl C hS hl kk => ?_⟩ (kt hc)
    show W p l e R s m args below meth c H locs cells slots Z (F0 m pc lsl (j_rv G r :: st.map (j_tr G)))
    rw [show j_rv G r = .null from if_pos hc]
    exact lv_ifnullN C.1 C.2.1 hd ht (kk _ hl)
  · refine jstep (pc' := pc + 3) (ls' := ls) (st' := st) ⟨fun a b => ⟨a, (fun v hv => b v (List.mem_cons_of_mem _ hv))⟩, fun a b p l e R s m args below meth c G H locs cells slots Z lsl C hS hl kk => ?_⟩ (kf hc)
    show W p l e R s m args below meth c H locs cells slots Z (F0 m pc lsl (j_rv G r :: st.map (j_tr G)))
    rw [j_rd1 G hc]
    exact lv_ifnull C.1 C.2.1 hd (kk _ hl)
theorem wp_ifnonnull {r : Nat} {off : Int} (tgt : Nat) (hd : decode y.2.1 pc = .ok (.ifnonnull off, 3)) (ht : (pc : Int) + off = (tgt : Int)) (kt : r ≠ 0 → jWp d y tgt ls st h Q) (kf : ¬ (r ≠ 0) → jWp d y (pc + 3) ls st h Q) : jWp d y pc ls (jR r :: st) h Q := by
  by_cases hc : r ≠ 0
  · refine jstep (pc' := tgt) (ls' := ls) (st' := st) ⟨fun a b => ⟨a, (fun v hv => b v (List.mem_cons_of_mem _ hv))⟩, fun a b p l e R s m args below meth c G H locs cells slots Z lsl C hS hl kk => ?_⟩ (kt hc)
    show W p l e R s m args below meth c H locs cells slots Z (F0 m pc lsl (j_rv G r :: st.map (j_tr G)))
    rw [j_rd1 G hc]
    exact lv_ifnonnull C.1 C.2.1 hd ht (kk _ hl)
  · refine jstep (pc' := pc + 3) (ls' := ls) (st' := st) ⟨fun a b => ⟨a, (fun v hv => b v (List.mem_cons_of_mem _ hv))⟩, fun a b p l e R s m args below meth c G H locs cells slots Z lsl C hS hl kk => ?_⟩ (kf hc)
    show W p l e R s m args below meth c H locs cells slots Z (F0 m pc lsl (j_rv G r :: st.map (j_tr G)))
    rw [show j_rv G r = .null from if_pos (Decidable.not_not.mp hc)]
    exact lv_ifnonnullN C.1 C.2.1 hd (kk _ hl)
theorem wp_lcmp {x z : Int} (hd : decode y.2.1 pc = .ok (.lcmp, 1)) (k : jWp d y (pc + 1) ls (jI (if z < x then 1 else if x = z then 0 else -1) :: st) h Q) : jWp d y pc ls (jL z :: jL x :: st) h Q := by
  refine jstep (pc' := (pc + 1)) (ls' := ls) (st' := (jI (if z < x then 1 else if x = z then 0 else -1) :: st)) ⟨fun a b => ⟨a, j_st1 (v := jI (if z < x then 1 else if x = z then 0 else -1)) (fun v hv => b v (List.mem_cons_of_mem _ (List.mem_cons_of_mem _ hv))) (show j32 _ by split; exact ⟨by decide, by decide⟩; split <;> exact ⟨by decide, by decide⟩)⟩, fun a b p l e R s m args below meth c G H locs cells slots Z lsl C hS hl kk => ?_⟩ k
  have rx : j64 x := b (jL x) (by simp)
  have rz : j64 z := b (jL z) (by simp)
  have g : W p l e R s m args below meth c H locs cells slots Z (F0 m (pc + 1) lsl (.int (Int32.ofInt (if z < x then 1 else if x = z then 0 else -1)) :: st.map (j_tr G))) := kk _ hl
  refine W.lcmp C.1 C.2.1 hd ?_
  have e : lg_cmp (Int64.ofInt x) (Int64.ofInt z) = Int32.ofInt (if z < x then 1 else if x = z then 0 else -1) := by
    have e1 : Int64.ofInt x > Int64.ofInt z ↔ z < x := by rw [gt_iff_lt, Int64.lt_iff_toInt_lt, j_tL rx, j_tL rz]
    have e2 : Int64.ofInt x = Int64.ofInt z ↔ x = z := by rw [← Int64.toInt_inj, j_tL rx, j_tL rz]
    unfold lg_cmp
    by_cases h1 : z < x
    · rw [if_pos (e1.mpr h1), if_pos h1]; rfl
    · rw [if_neg (fun q => h1 (e1.mp q)), if_neg h1]
      by_cases h2 : x = z
      · rw [if_pos (e2.mpr h2), if_pos h2]; rfl
      · rw [if_neg (fun q => h2 (e2.mp q)), if_neg h2]; rfl
  rw [e]
  exact g
/-- a switch by a table: inside, outside -/
theorem wp_table {x dflt lo hi : Int} {offs : Array Int} {len : Nat} (hd : decode y.2.1 pc = .ok (.tableswitch dflt lo hi offs, len)) (dt : Nat) (hdt : (pc : Int) + dflt = (dt : Int)) (kd : (x < lo ∨ hi < x) → jWp d y dt ls st h Q)
    (ki : ¬ x < lo → ¬ hi < x → ∃ (off : Int) (tgt : Nat), offs[(x - lo).toNat]? = some off ∧ (pc : Int) + off = (tgt : Int) ∧ jWp d y tgt ls st h Q) : jWp d y pc ls (jI x :: st) h Q := by
  by_cases hc : x < lo ∨ hi < x
  · refine jstep (pc' := dt) (ls' := ls) (st' := st) ⟨fun a b => ⟨a, (fun v hv => b v (List.mem_cons_of_mem _ hv))⟩, fun a b p l e R s m args below meth c G H locs cells slots Z lsl C hS hl kk => ?_⟩ (kd hc)
    have rx : j32 x := b (jI x) (by simp)
    exact lv_tableOut C.1 C.2.1 hd (by rw [j_ti rx]; exact hc) hdt (kk _ hl)
  · obtain ⟨off, tgt, h1, h2, h3⟩ := ki (fun q => hc (Or.inl q)) (fun q => hc (Or.inr q))
    refine jstep (pc' := tgt) (ls' := ls) (st' := st) ⟨fun a b => ⟨a, (fun v hv => b v (List.mem_cons_of_mem _ hv))⟩, fun a b p l e R s m args below meth c G H locs cells slots Z lsl C hS hl kk => ?_⟩ h3
    have rx : j32 x := b (jI x) (by simp)
    exact lv_tableIn C.1 C.2.1 hd (by rw [j_ti rx]; exact fun q => hc (Or.inl q)) (by rw [j_ti rx]; exact fun q => hc (Or.inr q)) (by rw [j_ti rx]; exact h1) h2 (kk _ hl)
theorem wp_lookup {x dflt : Int} {ps : Array (Int × Int)} {len : Nat} (hd : decode y.2.1 pc = .ok (.lookupswitch dflt ps, len)) (hp : (ps.toList.zip (ps.toList.drop 1)).all (fun (a, next) => a.1 < next.1) = true) {off : Int} (tgt : Nat) (ho : Op.lookupswitch.offset ps.toList dflt x = off) (ht : (pc : Int) + off = (tgt : Int)) (k : jWp d y tgt ls st h Q) : jWp d y pc ls (jI x :: st) h Q := by
  refine jstep (pc' := tgt) (ls' := ls) (st' := st) ⟨fun a b => ⟨a, (fun v hv => b v (List.mem_cons_of_mem _ hv))⟩, fun a b p l e R s m args below meth c G H locs cells slots Z lsl C hS hl kk => ?_⟩ k
  have rx : j32 x := b (jI x) (by simp)
  exact lv_lookup C.1 C.2.1 hd hp (by rw [j_ti rx]; exact ho) ht (kk _ hl)
/-- 'xor' whose sign alone is asked -/
theorem wp_ixor {x z : Int} (hd : decode y.2.1 pc = .ok (.ixor, 1)) (k : ∀ w : Int, (w < 0 ↔ ¬ (x < 0 ↔ z < 0)) → jWp d y (pc + 1) ls (jI w :: st) h Q) : jWp d y pc ls (jI z :: jI x :: st) h Q := by
  intro h1 h2 h3
  have rx : j32 x := h3 (jI x) (by simp)
  have rz : j32 z := h3 (jI z) (by simp)
  have hw : ((Int32.ofInt x ^^^ Int32.ofInt z).toInt < 0 ↔ ¬ (x < 0 ↔ z < 0)) := by
    have e : ∀ a : Int32, a.toInt < 0 ↔ a.toBitVec.msb = true := fun a => by
      rw [BitVec.msb_eq_toInt]
      exact ⟨fun h => decide_eq_true h, fun h => of_decide_eq_true h⟩
    rw [e, Int32.toBitVec_xor, BitVec.msb_xor]
    have f1 := e (Int32.ofInt x)
    have f2 := e (Int32.ofInt z)
    rw [j_ti rx] at f1
    rw [j_ti rz] at f2
    rw [f1, f2]
    cases (Int32.ofInt x).toBitVec.msb <;> cases (Int32.ofInt z).toBitVec.msb <;> simp
  refine jstep (pc' := pc + 1) (ls' := ls) (st' := jI (Int32.ofInt x ^^^ Int32.ofInt z).toInt :: st) ⟨fun a b => ⟨a, j_st1 (v := jI (Int32.ofInt x ^^^ Int32.ofInt z).toInt) (fun v hv => b v (List.mem_cons_of_mem _ (List.mem_cons_of_mem _ hv))) (j_of _)⟩, fun a b p l e R s m args below meth c G H locs cells slots Z lsl C hS hl kk => ?_⟩ (k _ hw) h1 h2 h3
  refine lv_ixor C.1 C.2.1 hd ?_
  have g : W p l e R s m args below meth c H locs cells slots Z (F0 m (pc + 1) lsl (.int (Int32.ofInt (Int32.ofInt x ^^^ Int32.ofInt z).toInt) :: st.map (j_tr G))) := kk _ hl
  rw [Int32.ofInt_toInt] at g
  exact g
/-! ends -/
theorem jend {v : Option jV} (hv : j_rgO (.inl v)) (hst : st = v.toList) (hq : Q (.inl v) h)
    (go : ∀ (p : Program) (l : Launch) (e : Env) (R : Room) (s : State) (m : MethodId) (args : Array Value) (below : List Frame) (meth : Method) (c : Code) (G : jG) (H : Heap) (locs : List Loc) (cells slots : Nat) (lsl : Array Slot) (Qc : Array Value → State → Outcome → State → Prop),
      jCx p l s m args meth c y G → (∀ t : State, t.heap = H → s.WarmedH t.vm → Qc args s (.returned (v.map (j_tr G))) t) → (∀ q ∈ locs, jbA G q.base) →
      W p l e R s m args below meth c H locs cells slots (MQ below Qc args s cells slots (jbA G)) (F0 m pc lsl (st.map (j_tr G)))) : jWp d y pc ls st h Q := by
  intro h1 h2 h3
  refine ⟨.inl v, h, hq, h1, hv, Nat.le_refl _, Nat.le_refl _, fun p l e R s m args below meth c G S0 T0 C f1 f2 f3 f4 f5 f6 H locs lsl hl hh hS => ?_⟩
  refine vx_ret (go p l e R s m args below meth c G H locs _ _ lsl _ C (fun t ht hW => ⟨v, rfl, rfl, by rw [ht]; exact hh, hS.F ht⟩) hS.2.2)
theorem wp_ireturn {x : Int} (hd : decode y.2.1 pc = .ok (.ireturn, 1)) (hr : y.2.2.2.1 = some .int) (hx : j32 x) (hq : Q (.inl (some (jI x))) h) : jWp d y pc ls [jI x] h Q := by
  refine jend (v := some (jI x)) hx rfl hq (fun p l e R s m args below meth c G H locs cells slots lsl Qc C hQ hf => ?_)
  obtain ⟨c1, c2, c3, c4, c5, -⟩ := C
  exact W.iret (v := Int32.ofInt x) c1 c2 (c4.trans hr) hQ hf hd c5
theorem j_zo {x : Int} (h0 : 0 ≤ x) (h1 : x ≤ 1) : narrow .boolean (.int (Int32.ofInt x)) = .int (Int32.ofInt x) := by
  rcases (show x = 0 ∨ x = 1 by omega) with rfl | rfl <;> rfl
theorem wp_zreturn {x : Int} (hd : decode y.2.1 pc = .ok (.ireturn, 1)) (hr : y.2.2.2.1 = some .boolean) (h0 : 0 ≤ x) (h1 : x ≤ 1) (hq : Q (.inl (some (jI x))) h) : jWp d y pc ls [jI x] h Q := by
  refine jend (v := some (jI x)) (show j32 x from ⟨by omega, by omega⟩) rfl hq (fun p l e R s m args below meth c G H locs cells slots lsl Qc C hQ hf => ?_)
  obtain ⟨c1, c2, c3, c4, c5, -⟩ := C
  exact W.zret (v := Int32.ofInt x) (ty := .boolean) c1 c2 (c4.trans hr) (j_zo h0 h1) hQ hf hd c5
theorem wp_lreturn {x : Int} (hd : decode y.2.1 pc = .ok (.lreturn, 1)) (hr : y.2.2.2.1 = some .long) (hx : j64 x) (hq : Q (.inl (some (jL x))) h) : jWp d y pc ls [jL x] h Q := by
  refine jend (v := some (jL x)) hx rfl hq (fun p l e R s m args below meth c G H locs cells slots lsl Qc C hQ hf => ?_)
  obtain ⟨c1, c2, c3, c4, c5, -⟩ := C
  exact W.lret (v := Int64.ofInt x) c1 c2 (c4.trans hr) hQ hf hd c5
theorem wp_return (hd : decode y.2.1 pc = .ok (.return_, 1)) (hr : y.2.2.2.1 = none) (hq : Q (.inl none) h) : jWp d y pc ls [] h Q := by
  refine jend (v := none) trivial rfl hq (fun p l e R s m args below meth c G H locs cells slots lsl Qc C hQ hf => ?_)
  obtain ⟨c1, c2, c3, c4, c5, -⟩ := C
  exact W.vret c1 c2 (c4.trans hr) hQ hf hd c5
theorem wp_areturn {r : Nat} {n : String} (hd : decode y.2.1 pc = .ok (.areturn, 1)) (hr : y.2.2.2.1 = some (.object n)) (hq : Q (.inl (some (jR r))) h) : jWp d y pc ls [jR r] h Q := by
  refine jend (v := some (jR r)) trivial rfl hq (fun p l e R s m args below meth c G H locs cells slots lsl Qc C hQ hf => ?_)
  obtain ⟨c1, c2, c3, c4, c5, -⟩ := C
  refine W.aret (v := j_rv G r) (rt := .object n) c1 c2 (c4.trans hr) (Or.inl ⟨n, rfl⟩) ?_ hQ hf hd c5
  by_cases hz : r = 0
  · exact Or.inl (if_pos hz)
  · exact Or.inr ⟨_, if_neg hz⟩
end PR
