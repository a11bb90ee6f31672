/-! ARRAYS -/
theorem j_cl {i : Int} (h : j32 i) : (Int32.ofInt i).toNatClampNeg = i.toNat := by
  show (Int32.ofInt i).toInt.toNat = i.toNat
  rw [j_ti h]
theorem j_inb {i : Int} {N : Nat} (h0 : 0 ≤ i) (h1 : i < N) (hN : N < 2147483648) : ¬ (Int32.ofInt i < 0 ∨ N ≤ (Int32.ofInt i).toNatClampNeg) := by
  have r : j32 i := ⟨by omega, by omega⟩
  rintro (q | q)
  · rw [j_0, j_lt r j_r0] at q
    omega
  · rw [j_cl r] at q
    omega
theorem j_size (cA : ClassId) (N : Nat) (f : Nat → Value) : (arrV cA N f).slots.size = N := arrV_size cA N f
theorem j_read {cA : ClassId} {N : Nat} {f : Nat → Value} {i : Int} (h0 : 0 ≤ i) (h1 : i < N) (hN : N < 2147483648) : (arrV cA N f).slots[(Int32.ofInt i).toNatClampNeg]? = some (f i.toNat) := by
  rw [j_cl ⟨by omega, by omega⟩]
  exact arrV_read _ _ (by omega)
section HP
variable {d : Nat} {y : jM} {pc : Nat} {ls : List (Nat × jV)} {st : List jV} {h : jH} {Q : jO → jH → Prop}
/-- a read of an array, by a row of the kit -/
theorem wp_ald {a n : Nat} {i : Int} (v : jV) (hk : hK h a = n) (hn : 10 ≤ n ∧ n ≤ 15) (h0 : 0 ≤ i) (h1 : i < hN h a) (hv : ∀ G : jG, j_av G h a i = j_tr G v) (hr : jOK h → j_rg v)
    (row : ∀ (p : Program) (l : Launch) (e : Env) (R : Room) (s : State) (m : MethodId) (args : Array Value) (below : List Frame) (meth : Method) (c : Code) (G : jG) (H : Heap) (locs : List Loc) (cells slots : Nat) (Z : State → Prop) (lsl : Array Slot) (cell : Cell) (w : Value),
      jCx p l s m args meth c y G → H[j_ad G a]? = some cell → (∀ z t, (jty G)[n - 10]? = some (z, t) → cell.cls = z ∧ s.isArrayOf cell t) → cell.vm ≠ .unknown → ¬ (Int32.ofInt i < 0 ∨ cell.slots.size ≤ (Int32.ofInt i).toNatClampNeg) → cell.slots[(Int32.ofInt i).toNatClampNeg]? = some w →
      W p l e R s m args below meth c H locs cells slots Z (F0 m (pc + 1) lsl (w :: st.map (j_tr G))) → W p l e R s m args below meth c H locs cells slots Z (F0 m pc lsl (.int (Int32.ofInt i) :: .ref (j_ad G a) :: st.map (j_tr G))))
    (k : j_rg v → jWp d y (pc + 1) ls (v :: st) h Q) : jWp d y pc ls (jI i :: jR a :: st) h Q := by
  intro ok h2 h3
  obtain ⟨oo, h', hq, ho, hrg, m1, m2, K⟩ := k (hr ok) ok h2 (j_st1 (j_s2 h3) (hr ok))
  refine ⟨oo, h', hq, ho, hrg, m1, m2, fun p l e R s m args below meth c G S0 T0 C f1 f2 f3 f4 f5 f6 H locs lsl hle hh hS => ?_⟩
  have g := K p l e R s m args below meth c G S0 T0 C f1 f2 f3 f4 f5 f6 H locs lsl hle hh hS
  have a10 := (ok.2.2.1 a (by omega) (by omega)).1
  have hcell := hh.2.2.1 a (by omega) (by omega)
  have hN2 := (ok.2.2.2.2 a).2
  show W p l e R s m args below meth c H locs _ _ _ (F0 m pc lsl (.int (Int32.ofInt i) :: j_rv G a :: st.map (j_tr G)))
  rw [j_rd1 G (by omega : a ≠ 0)]
  have e1 : j_av G h a (i.toNat : Int) = j_tr G v := by rw [Int.toNat_of_nonneg h0]; exact hv G
  refine row p l e R s m args below meth c G H locs _ _ _ lsl _ (j_tr G v) C hcell (fun z t ht => ?_) (fun q => by cases q) (by rw [j_size]; exact j_inb h0 (by omega) (by omega)) (by rw [j_read h0 (by omega) (by omega)]; exact congrArg some e1) g
  obtain ⟨c1, c2, c3, c4, c5, c6, c7, c8, c9, c10, c11⟩ := C
  have hz : (G.2.2.2.1 (n - 10)) = z := by
    have : ∀ q < 6, ∀ w, (jty G)[q]? = some w → G.2.2.2.1 q = w.1 := by
      intro q hq w hw
      match q, hq with
      | 0, _ => cases hw; rfl
      | 1, _ => cases hw; rfl
      | 2, _ => cases hw; rfl
      | 3, _ => cases hw; rfl
      | 4, _ => cases hw; rfl
      | 5, _ => cases hw; rfl
    exact this _ (by omega) _ ht
  refine ⟨by rw [hk]; exact hz, ?_⟩
  rw [hk, hz]
  exact (c11.1.2 _ _ ht).1 _ _
theorem wp_iaload {a : Nat} {i : Int} (hd : decode y.2.1 pc = .ok (.iaload, 1)) (hk : hK h a = 10) (h0 : 0 ≤ i) (h1 : i < hN h a) (k : j32 (hA h a i) → jWp d y (pc + 1) ls (jI (hA h a i) :: st) h Q) : jWp d y pc ls (jI i :: jR a :: st) h Q :=
  wp_ald (jI (hA h a i)) hk (by decide) h0 h1 (fun G => by unfold j_av; rw [if_neg (by omega), if_neg (by omega)]; rfl) (fun ok => by have := ok.2.1 a i; rw [hk] at this; exact this)
    (fun p l e R s m args below meth c G H locs cells slots Z lsl cell w C g1 g2 g3 g4 g5 g6 => W.iald C.1 C.2.1 g1 (g2 _ .int rfl).2 g3 g4 g5 rfl rfl hd g6) k
theorem wp_baload {a : Nat} {i : Int} (hd : decode y.2.1 pc = .ok (.baload, 1)) (hk : hK h a = 11) (h0 : 0 ≤ i) (h1 : i < hN h a) (k : (-128 ≤ hA h a i ∧ hA h a i ≤ 127) → jWp d y (pc + 1) ls (jI (hA h a i) :: st) h Q) : jWp d y pc ls (jI i :: jR a :: st) h Q := by
  intro ok h2 h3
  have hb : -128 ≤ hA h a i ∧ hA h a i ≤ 127 := by have := ok.2.1 a i; rw [hk] at this; exact this
  exact wp_ald (jI (hA h a i)) hk (by decide) h0 h1 (fun G => by unfold j_av; rw [if_neg (by omega), if_neg (by omega)]; rfl) (fun _ => show j32 _ from ⟨by omega, by omega⟩)
    (fun p l e R s m args below meth c G H locs cells slots Z lsl cell w C g1 g2 g3 g4 g5 g6 => W.bald C.1 C.2.1 g1 (g2 _ .byte rfl).2 g3 g4 g5 rfl rfl hd g6) (fun _ => k hb) ok h2 h3
theorem wp_zaload {a : Nat} {i : Int} (hd : decode y.2.1 pc = .ok (.baload, 1)) (hk : hK h a = 12) (h0 : 0 ≤ i) (h1 : i < hN h a) (k : (0 ≤ hA h a i ∧ hA h a i ≤ 1) → jWp d y (pc + 1) ls (jI (hA h a i) :: st) h Q) : jWp d y pc ls (jI i :: jR a :: st) h Q := by
  intro ok h2 h3
  have hb : 0 ≤ hA h a i ∧ hA h a i ≤ 1 := by have := ok.2.1 a i; rw [hk] at this; exact this
  exact wp_ald (jI (hA h a i)) hk (by decide) h0 h1 (fun G => by unfold j_av; rw [if_neg (by omega), if_neg (by omega)]; rfl) (fun _ => show j32 _ from ⟨by omega, by omega⟩)
    (fun p l e R s m args below meth c G H locs cells slots Z lsl cell w C g1 g2 g3 g4 g5 g6 => W.zald C.1 C.2.1 g1 (g2 _ .boolean rfl).2 g3 g4 g5 rfl rfl hd g6) (fun _ => k hb) ok h2 h3
theorem wp_laload {a : Nat} {i : Int} (hd : decode y.2.1 pc = .ok (.laload, 1)) (hk : hK h a = 13) (h0 : 0 ≤ i) (h1 : i < hN h a) (k : j64 (hA h a i) → jWp d y (pc + 1) ls (jL (hA h a i) :: st) h Q) : jWp d y pc ls (jI i :: jR a :: st) h Q :=
  wp_ald (jL (hA h a i)) hk (by decide) h0 h1 (fun G => by unfold j_av; rw [if_neg (by omega), if_pos hk]; rfl) (fun ok => by have := ok.2.1 a i; rw [hk] at this; exact this)
    (fun p l e R s m args below meth c G H locs cells slots Z lsl cell w C g1 g2 g3 g4 g5 g6 => W.lald C.1 C.2.1 g1 (g2 _ .long rfl).2 g3 g4 g5 rfl rfl hd g6) k
theorem wp_aaload {a n : Nat} {i : Int} (hd : decode y.2.1 pc = .ok (.aaload, 1)) (hk : hK h a = n) (hn : n = 14 ∨ n = 15) (h0 : 0 ≤ i) (h1 : i < hN h a) (k : jWp d y (pc + 1) ls (jR (hQ h a i) :: st) h Q) : jWp d y pc ls (jI i :: jR a :: st) h Q := by
  refine wp_ald (jR (hQ h a i)) hk (by omega) h0 h1 (fun G => by unfold j_av; rw [if_pos (by omega)]; rfl) (fun _ => trivial)
    (fun p l e R s m args below meth c G H locs cells slots Z lsl cell w C g1 g2 g3 g4 g5 g6 => ?_) (fun _ => k)
  rcases hn with hn | hn
  · subst hn
    exact W.aald (ty := .object RX4) C.1 C.2.1 g1 (g2 _ (.object RX4) rfl).2 rfl g3 g4 g5 rfl rfl hd g6
  · subst hn
    exact W.aald (ty := .object RX6) C.1 C.2.1 g1 (g2 _ (.object RX6) rfl).2 rfl g3 g4 g5 rfl rfl hd g6
theorem wp_alen {a n : Nat} (hd : decode y.2.1 pc = .ok (.arraylength, 1)) (hk : hK h a = n) (hn : 10 ≤ n ∧ n ≤ 15) (k : 0 ≤ hN h a → hN h a < 2147483648 → jWp d y (pc + 1) ls (jI (hN h a) :: st) h Q) : jWp d y pc ls (jR a :: st) h Q := by
  intro ok h2 h3
  have hb := ok.2.2.2.2 a
  obtain ⟨oo, h', hq, ho, hrg, m1, m2, K⟩ := k hb.1 hb.2 ok h2 (j_st1 (v := jI (hN h a)) (j_s1 h3) (show j32 _ from ⟨by omega, by omega⟩))
  refine ⟨oo, h', hq, ho, hrg, m1, m2, fun p l e R s m args below meth c G S0 T0 C f1 f2 f3 f4 f5 f6 H locs lsl hle hh hS => ?_⟩
  have g := K p l e R s m args below meth c G S0 T0 C f1 f2 f3 f4 f5 f6 H locs lsl hle hh hS
  have hcell := hh.2.2.1 a (by omega) (by omega)
  show W p l e R s m args below meth c H locs _ _ _ (F0 m pc lsl (j_rv G a :: st.map (j_tr G)))
  rw [j_rd1 G (by have := (ok.2.2.1 a (by omega) (by omega)).1; omega : a ≠ 0)]
  obtain ⟨c1, c2, c3, c4, c5, c6, c7, c8, c9, c10, c11⟩ := C
  have key : ∃ t, s.isArrayOf (arrV (G.2.2.2.1 (hK h a - 10)) (hN h a).toNat (fun j => j_av G h a (j : Int))) t := by
    have : ∀ q < 6, ∃ t, (jty G)[q]? = some (G.2.2.2.1 q, t) := by
      intro q hq
      match q, hq with
      | 0, _ => exact ⟨_, rfl⟩
      | 1, _ => exact ⟨_, rfl⟩
      | 2, _ => exact ⟨_, rfl⟩
      | 3, _ => exact ⟨_, rfl⟩
      | 4, _ => exact ⟨_, rfl⟩
      | 5, _ => exact ⟨_, rfl⟩
    obtain ⟨t, ht⟩ := this (hK h a - 10) (by omega)
    exact ⟨t, (c11.1.2 _ _ ht).1 _ _⟩
  obtain ⟨t, ht⟩ := key
  refine W.alen (n := Int32.ofInt (hN h a)) c1 c2 hcell ht ?_ rfl rfl hd g
  rw [j_size]
  show Int32.ofNat _ = _
  rw [← Int32.ofInt_eq_ofNat, Int.toNat_of_nonneg hb.1]
end HP
