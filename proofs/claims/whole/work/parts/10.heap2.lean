theorem j2_eq {α : Type} {f : Nat → Nat → α} {a b : Nat} {v : α} : j2 f a b v a b = v := if_pos ⟨rfl, rfl⟩
theorem j2_ne {α : Type} {f : Nat → Nat → α} {a b x y : Nat} {v : α} (h : ¬ (x = a ∧ y = b)) : j2 f a b v x y = f x y := if_neg h
theorem ja_eq {α : Type} {f : Nat → Int → α} {a : Nat} {i : Int} {v : α} : ja f a i v a i = v := if_pos ⟨rfl, rfl⟩
theorem ja_ne {α : Type} {f : Nat → Int → α} {a x : Nat} {i y : Int} {v : α} (h : ¬ (x = a ∧ y = i)) : ja f a i v x y = f x y := if_neg h
section HP
variable {d : Nat} {y : jM} {pc : Nat} {ls : List (Nat × jV)} {st : List jV} {h : jH} {Q : jO → jH → Prop}
theorem j_ci {ci : Nat} {r : vw_C} (hc : vwCl[ci]? = some r) : ci ≤ 8 := by
  have := (List.getElem?_eq_some_iff.mp hc).1
  simpa using Nat.lt_succ_iff.mp this
/-- a write of a field -/
theorem wp_put {ci j o idx : Nat} {r : vw_C} {v : jV} (h1 : jH) (hc : vwCl[ci]? = some r) (hj : j < r.2.2) (hl : Cond.fieldLink y.1.cls idx (r.2.1 j).1 (r.2.1 j).2.1 (r.2.1 j).2.2.1 ∈ jW) (hd : decode y.2.1 pc = .ok (.putfield idx, 3)) (hk : hK h o = ci + 1)
    (hfin : (r.2.1 j).2.2.2 = false ∨ ((r.2.1 j).2.2.2 = true ∧ y.1.name = "<init>" ∧ (r.2.1 j).1 = y.1.cls)) (hn : ∀ G : jG, narrow (j_ty ci j) (j_tr G v) = j_tr G v ∧ fits (j_ty ci j) (j_tr G v) = true)
    (e : hK h1 = hK h ∧ hN h1 = hN h ∧ hS h1 = hS h ∧ hT h1 = hT h ∧ hA h1 = hA h ∧ hQ h1 = hQ h) (hv : ∀ G : jG, j_fv G h1 ci o j = j_tr G v) (hw : ∀ (G : jG) (ci' k' j' : Nat), k' ≠ o → j_fv G h1 ci' k' j' = j_fv G h ci' k' j') (hw2 : ∀ (G : jG) (j' : Nat), j' ≠ j → j_fv G h1 ci o j' = j_fv G h ci o j') (hok : jOK h → j_rg v → jOK h1)
    (k : jWp d y (pc + 3) ls st h1 Q) : jWp d y pc ls (v :: jR o :: st) h Q := by
  intro ok h2 h3
  obtain ⟨eK, eN, eS, eT, eA, eQ⟩ := e
  obtain ⟨oo, h', hq, ho, hrg, m1, m2, K⟩ := k (hok ok (h3 v (by simp))) h2 (j_s2 h3)
  rw [eS] at m1
  rw [eT] at m2
  refine ⟨oo, h', hq, ho, hrg, m1, m2, fun p l e R s m args below meth c G S0 T0 C f1 f2 f3 f4 f5 f6 H locs lsl hle hh hS => ?_⟩
  have g := fun (H1 : Heap) (locs1 : List Loc) => K p l e R s m args below meth c G S0 T0 C f1 f2 (by rw [eS]; exact f3) (by rw [eT]; exact f4) f5 f6 H1 locs1 lsl hle
  rw [eS, eT] at g
  have hci := j_ci hc
  have o10 := (ok.2.2.1 o (by omega) (by omega)).1
  have hob := hh.2.1 o r (by omega) (by omega) (by rw [hk]; exact hc)
  rw [hk, Nat.add_sub_cancel] at hob
  obtain ⟨c1, c2, c3, c4, c5, c6, c7, c8, c9, c10, c11⟩ := C
  obtain ⟨cell, q1, q2, q3, q4⟩ := hob
  have hKn := c11.1.1 ci _ hc
  obtain ⟨hSl, hfc, kC, hkC, hkind⟩ := id hKn
  obtain ⟨cf, kf, fi, f, hi, hsl⟩ := hSl j hj
  have hap := va_apart (own := y.1.cls) c8 (jcl_in ci r hc) (j_ty ci) (jcl_ty ci r hc) (jcl_nm ci r hc) c11.1 hc
  have hlay := c8 _ (jcl_in ci r hc _ (u_in_lay hj))
  have hst := (u_facts hfc hkC (u_lays c8 (jcl_in ci r hc) hj) hi).1
  have fin : ∀ (H' : Heap), H'[j_ad G o]? = some (cell.setSlot f.slot (j_tr G v)) → H'.size = H.size → (∀ q, q ≠ j_ad G o → H'[q]? = H[q]?) → jhr G h1 H' := by
    intro H' e1 e2 e3
    refine hh.upd ok eK eN eS (k := o) (by omega) (by omega) e2 e3 (fun r' _ hr' => ?_) (fun q => absurd q (by omega)) (fun ci' k' j' n => ?_) (fun k' j' _ => ?_) (fun _ i => by rw [eA])
    · rw [hk, Nat.add_sub_cancel] at hr' ⊢
      have hrr : r' = r := Option.some.inj (hr'.symm.trans hc)
      subst hrr
      refine ⟨_, e1, q2, q3, fun j' hj' => ?_⟩
      by_cases ej : j' = j
      · subst ej
        rw [hsl, hv G]
        exact Cell.slots_setSlot_self _ (Array.getElem?_eq_some_iff.mp (q4 j' hj')).1
      · rw [slot_ne _ _ (by rw [hsl]; exact hap _ _ hj hj' (fun q => ej q.symm)), q4 j' hj', hw2 G j' ej]
    · exact hw G ci' k' j' n
    · unfold j_av
      rw [eK, eA, eQ]
  show W p l e R s m args below meth c H locs _ _ _ (F0 m pc lsl (j_tr G v :: j_rv G o :: st.map (j_tr G)))
  rw [j_rd1 G (by omega : o ≠ 0)]
  have hlt : f.slot < cell.slots.size := by
    have := (Array.getElem?_eq_some_iff.mp (q4 j hj)).1
    rw [hsl]; exact this
  rcases hfin with hfin | ⟨hfin, hin, hdecl⟩
  · unfold u_lay at hlay
    rw [if_neg (by rw [hfin]; decide)] at hlay
    have h6 := u_store hfc hkC hkind hlay hi (jcl_ty ci r hc j hj) (hn G).1 (hn G).2
    exact W.putK c1 c2 (f := f) ⟨c6, c8 _ hl, ⟨_, _, _, hi⟩, hst⟩ (by rw [q2]; exact h6) q1 q3 hlt rfl rfl hd fun H' e1 e2 e3 => g H' _ (fin H' e1 e2 e3) (hS.put e2 e3 (j_ad_in o10))
  · unfold u_lay at hlay
    rw [if_pos hfin] at hlay
    have hcf : m.cls = cf := by
      obtain ⟨_, _, c', _, _, _, -, -, hf', -, -, -, hown2, -⟩ := Cond.laysFinal_spec hlay
      have e1 : c' = cf := by have := hi.symm.trans hf'; simp at this; exact this.1.symm
      rw [hdecl] at hown2
      rw [← e1]; exact Option.some.inj (c6.symm.trans hown2)
    have h6 := u_fits hfc hkC hkind (Or.inr hlay) hi (jcl_ty ci r hc j hj) (hn G).1 (hn G).2
    exact W.putFinK c1 c2 c6 (c8 _ hl) hi hst hcf (c7.trans hin) (by rw [q2]; exact h6) q1 q3 hlt rfl rfl hd fun H' e1 e2 e3 => g H' _ (fin H' e1 e2 e3) (hS.put e2 e3 (j_ad_in o10))
theorem wp_putI {ci j o idx : Nat} {r : vw_C} {x : Int} (hc : vwCl[ci]? = some r) (hj : j < r.2.2) (hl : Cond.fieldLink y.1.cls idx (r.2.1 j).1 (r.2.1 j).2.1 (r.2.1 j).2.2.1 ∈ jW) (hd : decode y.2.1 pc = .ok (.putfield idx, 3)) (hk : hK h o = ci + 1)
    (hfin : (r.2.1 j).2.2.2 = false ∨ ((r.2.1 j).2.2.2 = true ∧ y.1.name = "<init>" ∧ (r.2.1 j).1 = y.1.cls)) (hty : j_ty ci j = .int) (k : jWp d y (pc + 3) ls st (sI h (100 * ci + j) o x) Q) : jWp d y pc ls (jI x :: jR o :: st) h Q := by
  have hi : j_isr (j_ty ci j) = false := by rw [hty]; rfl
  refine wp_put (v := jI x) (sI h (100 * ci + j) o x) hc hj hl hd hk hfin (fun G => by rw [hty]; exact ⟨rfl, rfl⟩) ⟨rfl, rfl, rfl, rfl, rfl, rfl⟩ (fun G => ?_) (fun G ci' k' j' n => ?_) (fun G j' n => ?_) (fun ok hv => ok.sI hv) k
  · unfold j_fv
    rw [if_neg (by rw [hi]; decide)]
    show Value.int (Int32.ofInt (j2 _ _ _ _ _ _)) = _
    rw [j2_eq]
    rfl
  · unfold j_fv
    show (if _ then _ else Value.int (Int32.ofInt (j2 _ _ _ _ _ _))) = _
    rw [j2_ne (fun q => n q.2)]
    rfl
  · unfold j_fv
    show (if _ then _ else Value.int (Int32.ofInt (j2 _ _ _ _ _ _))) = _
    rw [j2_ne (fun q => n (by have := q.1; omega))]
    rfl
theorem wp_putZ {ci j o idx : Nat} {r : vw_C} {x : Int} (hc : vwCl[ci]? = some r) (hj : j < r.2.2) (hl : Cond.fieldLink y.1.cls idx (r.2.1 j).1 (r.2.1 j).2.1 (r.2.1 j).2.2.1 ∈ jW) (hd : decode y.2.1 pc = .ok (.putfield idx, 3)) (hk : hK h o = ci + 1)
    (hfin : (r.2.1 j).2.2.2 = false ∨ ((r.2.1 j).2.2.2 = true ∧ y.1.name = "<init>" ∧ (r.2.1 j).1 = y.1.cls)) (hty : j_ty ci j = .boolean) (h0 : 0 ≤ x ∧ x ≤ 1) (k : jWp d y (pc + 3) ls st (sI h (100 * ci + j) o x) Q) : jWp d y pc ls (jI x :: jR o :: st) h Q := by
  have hi : j_isr (j_ty ci j) = false := by rw [hty]; rfl
  refine wp_put (v := jI x) (sI h (100 * ci + j) o x) hc hj hl hd hk hfin (fun G => by rw [hty]; exact ⟨j_zo h0.1 h0.2, by rcases (show x = 0 ∨ x = 1 by omega) with rfl | rfl <;> rfl⟩) ⟨rfl, rfl, rfl, rfl, rfl, rfl⟩ (fun G => ?_) (fun G ci' k' j' n => ?_) (fun G j' n => ?_) (fun ok hv => ok.sI hv) k
  · unfold j_fv
    rw [if_neg (by rw [hi]; decide)]
    show Value.int (Int32.ofInt (j2 _ _ _ _ _ _)) = _
    rw [j2_eq]
    rfl
  · unfold j_fv
    show (if _ then _ else Value.int (Int32.ofInt (j2 _ _ _ _ _ _))) = _
    rw [j2_ne (fun q => n q.2)]
    rfl
  · unfold j_fv
    show (if _ then _ else Value.int (Int32.ofInt (j2 _ _ _ _ _ _))) = _
    rw [j2_ne (fun q => n (by have := q.1; omega))]
    rfl
theorem wp_putR {ci j o idx : Nat} {r : vw_C} {x : Nat} (hc : vwCl[ci]? = some r) (hj : j < r.2.2) (hl : Cond.fieldLink y.1.cls idx (r.2.1 j).1 (r.2.1 j).2.1 (r.2.1 j).2.2.1 ∈ jW) (hd : decode y.2.1 pc = .ok (.putfield idx, 3)) (hk : hK h o = ci + 1)
    (hfin : (r.2.1 j).2.2.2 = false ∨ ((r.2.1 j).2.2.2 = true ∧ y.1.name = "<init>" ∧ (r.2.1 j).1 = y.1.cls)) (hty : j_isr (j_ty ci j) = true) (k : jWp d y (pc + 3) ls st (sR h (100 * ci + j) o x) Q) : jWp d y pc ls (jR x :: jR o :: st) h Q := by
  refine wp_put (v := jR x) (sR h (100 * ci + j) o x) hc hj hl hd hk hfin (fun G => ?_) ⟨rfl, rfl, rfl, rfl, rfl, rfl⟩ (fun G => ?_) (fun G ci' k' j' n => ?_) (fun G j' n => ?_) (fun ok hv => ok.sR) k
  · show narrow (j_ty ci j) (j_rv G x) = j_rv G x ∧ fits (j_ty ci j) (j_rv G x) = true
    unfold j_rv
    generalize j_ty ci j = ty at hty
    by_cases hz : x = 0
    · simp only [if_pos hz]
      cases ty <;> first | (exact ⟨rfl, rfl⟩) | cases hty
    · simp only [if_neg hz]
      cases ty <;> first | (exact ⟨rfl, rfl⟩) | cases hty
  · unfold j_fv
    rw [if_pos hty]
    show j_rv G (j2 _ _ _ _ _ _) = _
    rw [j2_eq]
    rfl
  · unfold j_fv
    show (if _ then j_rv G (j2 _ _ _ _ _ _) else _) = _
    rw [j2_ne (fun q => n q.2)]
    rfl
  · unfold j_fv
    show (if _ then j_rv G (j2 _ _ _ _ _ _) else _) = _
    rw [j2_ne (fun q => n (by have := q.1; omega))]
    rfl
end HP
