section HP
variable {d : Nat} {y : jM} {pc : Nat} {ls : List (Nat × jV)} {st : List jV} {h : jH} {Q : jO → jH → Prop}
theorem j_cyt {G : jG} {q : Nat} {t : FieldType} (h : ∃ z, (jty G)[q]? = some (z, t)) : (jty G)[q]? = some (G.2.2.2.1 q, t) := by
  obtain ⟨z, h⟩ := h
  match q, h with
  | 0, h => cases h; rfl
  | 1, h => cases h; rfl
  | 2, h => cases h; rfl
  | 3, h => cases h; rfl
  | 4, h => cases h; rfl
  | 5, h => cases h; rfl
  | k + 6, h => simp [jty] at h
/-- a write into an array, by a row of the kit -/
theorem wp_ast {a n : Nat} {i : Int} {v : jV} {h1 : jH} (hk : hK h a = n) (hn : 10 ≤ n ∧ n ≤ 15) (h0 : 0 ≤ i) (hi : i < hN h a)
    (e : hK h1 = hK h ∧ hN h1 = hN h ∧ hS h1 = hS h ∧ hT h1 = hT h ∧ hI h1 = hI h ∧ hR h1 = hR h) (hv : ∀ G : jG, j_av G h1 a i = j_tr G v) (hw : ∀ (G : jG) (k' : Nat) (j' : Int), ¬ (k' = a ∧ j' = i) → j_av G h1 k' j' = j_av G h k' j') (h4 : ∀ a', a' ≠ a → hA h1 a' = hA h a') (hok : jOK h → j_rg v → jOK h1)
    (row : ∀ (p : Program) (l : Launch) (e : Env) (R : Room) (s : State) (m : MethodId) (args : Array Value) (below : List Frame) (meth : Method) (c : Code) (G : jG) (H : Heap) (locs : List Loc) (cells slots : Nat) (Z : State → Prop) (lsl : Array Slot) (cell : Cell),
      jCx p l s m args meth c y G → jhr G h H → jOK h → H[j_ad G a]? = some cell → (∀ t, (∃ z, (jty G)[n - 10]? = some (z, t)) → cell.cls = G.2.2.2.1 (n - 10) ∧ s.isArrayOf cell t) → cell.vm = .none → ¬ (Int32.ofInt i < 0 ∨ cell.slots.size ≤ (Int32.ofInt i).toNatClampNeg) →
      (∀ H' : Heap, H'[j_ad G a]? = some (cell.setSlot (Int32.ofInt i).toNatClampNeg (j_tr G v)) → H'.size = H.size → (∀ q, q ≠ j_ad G a → H'[q]? = H[q]?) → W p l e R s m args below meth c H' (locs ++ [⟨j_ad G a, (Int32.ofInt i).toNatClampNeg⟩]) cells slots Z (F0 m (pc + 1) lsl (st.map (j_tr G)))) →
      W p l e R s m args below meth c H locs cells slots Z (F0 m pc lsl (j_tr G v :: .int (Int32.ofInt i) :: .ref (j_ad G a) :: st.map (j_tr G))))
    (k : jWp d y (pc + 1) ls st h1 Q) : jWp d y pc ls (v :: jI i :: jR a :: st) h Q := by
  intro ok h2 h3
  obtain ⟨eK, eN, eS, eT, eI, eR⟩ := e
  obtain ⟨oo, h', hq, ho, hrg, m1, m2, K⟩ := k (hok ok (h3 v (by simp))) h2 (j_s3 h3)
  rw [eS] at m1
  rw [eT] at m2
  refine ⟨oo, h', hq, ho, hrg, m1, m2, fun p l e R s m args below meth c G S0 T0 C f1 f2 f3 f4 f5 f6 H locs lsl hle hh hS => ?_⟩
  have g := fun (H1 : Heap) (locs1 : List Loc) => K p l e R s m args below meth c G S0 T0 C f1 f2 (by rw [eS]; exact f3) (by rw [eT]; exact f4) f5 f6 H1 locs1 lsl hle
  rw [eS, eT] at g
  have a10 := (ok.2.2.1 a (by omega) (by omega)).1
  have hcell := hh.2.2.1 a (by omega) (by omega)
  have hN2 := (ok.2.2.2.2 a).2
  show W p l e R s m args below meth c H locs _ _ _ (F0 m pc lsl (j_tr G v :: .int (Int32.ofInt i) :: j_rv G a :: st.map (j_tr G)))
  rw [j_rd1 G (by omega : a ≠ 0)]
  refine row p l e R s m args below meth c G H locs _ _ _ lsl _ C hh ok hcell (fun t ht => ?_) rfl (by rw [j_size]; exact j_inb h0 (by omega) (by omega)) (fun H' e1 e2 e3 => ?_)
  · have ht2 := j_cyt ht
    refine ⟨by rw [hk]; rfl, ?_⟩
    rw [hk]
    exact (C.2.2.2.2.2.2.2.2.2.2.1.2 _ _ ht2).1 _ _
  · refine g H' _ ?_ (hS.put e2 e3 (j_ad_in a10))
    refine hh.upd ok eK eN eS (k := a) (by omega) (by omega) e2 e3 (fun r q => absurd q (by omega)) (fun _ _ => ?_) (fun ci' k' j' n => by unfold j_fv; rw [eI, eR]) (fun k' j' n => hw G k' j' (fun q => n q.1)) (fun n i' => by rw [h4 4 (fun q => n q.symm)])
    rw [e1]
    show some (arrV _ _ _ |>.setSlot _ _) = _
    rw [arrV_store]
    congr 2
    funext q
    rw [j_cl ⟨by omega, by omega⟩]
    by_cases hq : q = i.toNat
    · subst hq
      simp only [updV, if_true]
      rw [Int.toNat_of_nonneg h0]
      exact (hv G).symm
    · simp only [updV, if_neg hq]
      exact (hw G a (q : Int) (fun z => hq (by omega))).symm
theorem j_av_sA {G : jG} {h : jH} {a : Nat} {i v : Int} {k' : Nat} {j' : Int} (n : ¬ (k' = a ∧ j' = i)) : j_av G (sA h a i v) k' j' = j_av G h k' j' := by
  unfold j_av
  show (if 14 ≤ hK h k' then _ else if hK h k' = 13 then Value.long (Int64.ofInt (ja _ _ _ _ _ _)) else Value.int (Int32.ofInt (ja _ _ _ _ _ _))) = _
  rw [ja_ne n]
  rfl
theorem j_hA_sA {h : jH} {a : Nat} {i v : Int} (a' : Nat) (n : a' ≠ a) : hA (sA h a i v) a' = hA h a' := by
  funext q
  show ja _ _ _ _ _ _ = _
  rw [ja_ne (fun z => n z.1)]
theorem wp_iastore {a : Nat} {i x : Int} (hd : decode y.2.1 pc = .ok (.iastore, 1)) (hk : hK h a = 10) (h0 : 0 ≤ i) (hi : i < hN h a) (k : jWp d y (pc + 1) ls st (sA h a i x) Q) : jWp d y pc ls (jI x :: jI i :: jR a :: st) h Q :=
  wp_ast (v := jI x) (h1 := sA h a i x) hk (by decide) h0 hi ⟨rfl, rfl, rfl, rfl, rfl, rfl⟩ (fun G => by
    unfold j_av
    rw [if_neg (by show ¬ 14 ≤ hK h a; omega), if_neg (by show ¬ hK h a = 13; omega)]
    show Value.int (Int32.ofInt (ja _ _ _ _ _ _)) = _
    rw [ja_eq]; rfl) (fun G k' j' n => j_av_sA n) j_hA_sA (fun ok hv => ok.sA (by rw [hk]; exact hv))
    (fun p l e R s m args below meth c G H locs cells slots Z lsl cell C hh ok g1 g2 g3 g4 g5 => W.iast C.1 C.2.1 g1 (g2 .int ⟨_, rfl⟩).2 (by rw [g3]; exact fun q => by cases q) g4 rfl rfl hd g5) k
theorem j_nb {x : Int} (h : -128 ≤ x ∧ x ≤ 127) : narrow .byte (.int (Int32.ofInt x)) = .int (Int32.ofInt x) := by
  show Value.int (Int32.ofInt x).toInt8.toInt32 = _
  congr 1
  refine j_eqI ?_
  rw [Int8.toInt_toInt32, Int32.toInt_toInt8, j_ti ⟨by omega, by omega⟩]
  exact Int.bmod_eq_of_le (by omega) (by omega)
theorem wp_bastore {a : Nat} {i x : Int} (hd : decode y.2.1 pc = .ok (.bastore, 1)) (hk : hK h a = 11) (h0 : 0 ≤ i) (hi : i < hN h a) (hx : -128 ≤ x ∧ x ≤ 127) (k : jWp d y (pc + 1) ls st (sA h a i x) Q) : jWp d y pc ls (jI x :: jI i :: jR a :: st) h Q :=
  wp_ast (v := jI x) (h1 := sA h a i x) hk (by decide) h0 hi ⟨rfl, rfl, rfl, rfl, rfl, rfl⟩ (fun G => by
    unfold j_av
    rw [if_neg (by show ¬ 14 ≤ hK h a; omega), if_neg (by show ¬ hK h a = 13; omega)]
    show Value.int (Int32.ofInt (ja _ _ _ _ _ _)) = _
    rw [ja_eq]; rfl) (fun G k' j' n => j_av_sA n) j_hA_sA (fun ok hv => ok.sA (by rw [hk]; exact hx))
    (fun p l e R s m args below meth c G H locs cells slots Z lsl cell C hh ok g1 g2 g3 g4 g5 => W.bast C.1 C.2.1 g1 (g2 .byte ⟨_, rfl⟩).2 (by rw [g3]; exact fun q => by cases q) g4 rfl rfl hd (fun H' e1 => g5 H' (by rw [e1, j_nb hx]; rfl))) k
theorem wp_zastore {a : Nat} {i x : Int} (hd : decode y.2.1 pc = .ok (.bastore, 1)) (hk : hK h a = 12) (h0 : 0 ≤ i) (hi : i < hN h a) (hx : 0 ≤ x ∧ x ≤ 1) (k : jWp d y (pc + 1) ls st (sA h a i x) Q) : jWp d y pc ls (jI x :: jI i :: jR a :: st) h Q :=
  wp_ast (v := jI x) (h1 := sA h a i x) hk (by decide) h0 hi ⟨rfl, rfl, rfl, rfl, rfl, rfl⟩ (fun G => by
    unfold j_av
    rw [if_neg (by show ¬ 14 ≤ hK h a; omega), if_neg (by show ¬ hK h a = 13; omega)]
    show Value.int (Int32.ofInt (ja _ _ _ _ _ _)) = _
    rw [ja_eq]; rfl) (fun G k' j' n => j_av_sA n) j_hA_sA (fun ok hv => ok.sA (by rw [hk]; exact hx))
    (fun p l e R s m args below meth c G H locs cells slots Z lsl cell C hh ok g1 g2 g3 g4 g5 => W.zast C.1 C.2.1 g1 (g2 .boolean ⟨_, rfl⟩).2 (by rw [g3]; exact fun q => by cases q) g4 rfl rfl hd (fun H' e1 => g5 H' (by rw [e1, j_zo hx.1 hx.2]; rfl))) k
theorem wp_lastore {a : Nat} {i x : Int} (hd : decode y.2.1 pc = .ok (.lastore, 1)) (hk : hK h a = 13) (h0 : 0 ≤ i) (hi : i < hN h a) (k : jWp d y (pc + 1) ls st (sA h a i x) Q) : jWp d y pc ls (jL x :: jI i :: jR a :: st) h Q :=
  wp_ast (v := jL x) (h1 := sA h a i x) hk (by decide) h0 hi ⟨rfl, rfl, rfl, rfl, rfl, rfl⟩ (fun G => by
    unfold j_av
    rw [if_neg (by show ¬ 14 ≤ hK h a; omega), if_pos (by show hK h a = 13; omega)]
    show Value.long (Int64.ofInt (ja _ _ _ _ _ _)) = _
    rw [ja_eq]; rfl) (fun G k' j' n => j_av_sA n) j_hA_sA (fun ok hv => ok.sA (by rw [hk]; exact hv))
    (fun p l e R s m args below meth c G H locs cells slots Z lsl cell C hh ok g1 g2 g3 g4 g5 => W.last C.1 C.2.1 g1 (g2 .long ⟨_, rfl⟩).2 (by rw [g3]; exact fun q => by cases q) g4 rfl rfl hd g5) k
/-- a reference into an array of references: of the array's own class -/
theorem wp_aastore {a n v : Nat} {i : Int} (hd : decode y.2.1 pc = .ok (.aastore, 1)) (hk : hK h a = n) (hn : n = 14 ∧ hK h v = 3 ∨ n = 15 ∧ hK h v = 5) (h0 : 0 ≤ i) (hi : i < hN h a) (k : jWp d y (pc + 1) ls st (sQ h a i v) Q) : jWp d y pc ls (jR v :: jI i :: jR a :: st) h Q := by
  refine wp_ast (v := jR v) (h1 := sQ h a i v) hk (by omega) h0 hi ⟨rfl, rfl, rfl, rfl, rfl, rfl⟩ (fun G => ?_) (fun G k' j' n => ?_) (fun a' _ => rfl) (fun ok _ => ok.sQ)
    (fun p l e R s m args below meth c G H locs cells slots Z lsl cell C hh ok g1 g2 g3 g4 g5 => ?_) k
  · unfold j_av
    rw [if_pos (by show 14 ≤ hK h a; omega)]
    show j_rv G (ja _ _ _ _ _ _) = _
    rw [ja_eq]; rfl
  · unfold j_av
    show (if 14 ≤ hK h k' then j_rv G (ja _ _ _ _ _ _) else _) = _
    rw [ja_ne n]
    rfl
  · have hv0 : v ≠ 0 := by have := (ok.2.2.1 v (by omega) (by omega)).1; omega
    have hc11 := C.2.2.2.2.2.2.2.2.2.2
    show W p l e R s m args below meth c H locs cells slots Z (F0 m pc lsl (j_rv G v :: .int (Int32.ofInt i) :: .ref (j_ad G a) :: st.map (j_tr G)))
    have g6 : ∀ H' : Heap, H'[j_ad G a]? = some (cell.setSlot (Int32.ofInt i).toNatClampNeg (.ref (j_ad G v))) → H'.size = H.size → (∀ q, q ≠ j_ad G a → H'[q]? = H[q]?) → W p l e R s m args below meth c H' (locs ++ [⟨j_ad G a, (Int32.ofInt i).toNatClampNeg⟩]) cells slots Z (F0 m (pc + 1) lsl (st.map (j_tr G))) := fun H' e1 => g5 H' (by rw [e1]; congr 2; exact (j_rd1 G hv0).symm)
    rw [j_rd1 G hv0]
    have key : ∀ (ci : Nat) (r : vw_C) (q : Nat), vwCl[ci]? = some r → hK h v = ci + 1 → n - 10 = q → (jty G)[q]? = some (G.2.2.2.1 q, .object r.1) → W p l e R s m args below meth c H locs cells slots Z (F0 m pc lsl (.ref (j_ad G v) :: .int (Int32.ofInt i) :: .ref (j_ad G a) :: st.map (j_tr G))) := by
      intro ci r q hc hkv hq ht
      have hci := j_ci hc
      have hob := hh.2.1 v r (by omega) (by omega) (by rw [hkv]; exact hc)
      rw [hkv, Nat.add_sub_cancel] at hob
      obtain ⟨cv, q1, q2, q3, q4⟩ := hob
      obtain ⟨-, hfc, kC, hkC, hkind⟩ := hc11.1.1 ci _ hc
      obtain ⟨har, kA, comp, hkA, hkindA, hcomp, -⟩ := hc11.1.2 _ _ ht
      obtain ⟨e1, e2⟩ := g2 (.object r.1) ⟨_, by rw [hq]; exact ht⟩
      rw [hq] at e1
      have hcc : comp = G.1.1 ci := Option.some.inj (hcomp.symm.trans hfc)
      subst hcc
      exact W.aast (k := kA) (kv := kC) (kcomp := kC) (cv := cv) C.1 C.2.1 g1 (fun z hz => by rw [g3] at hz; cases hz) (by rw [g3]; exact fun z => by cases z) (by rw [e1]; exact hkA) hkindA rfl hkC ⟨fun z => g4 (Or.inl z), Nat.not_le.mp (fun z => g4 (Or.inr z))⟩ q1 (fun z hz => by rw [q3] at hz; cases hz) (by rw [q2]; exact hkC) (by rw [q2]; exact va_assign ⟨hfc, kC, hkC, hkind⟩) rfl rfl hd g6
    rcases hn with ⟨hn, hkv⟩ | ⟨hn, hkv⟩
    · exact key 2 _ 4 rfl hkv (by omega) rfl
    · exact key 4 _ 5 rfl hkv (by omega) rfl
end HP
