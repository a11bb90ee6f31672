/-! THE HEAP -/
theorem jcl_in : ∀ (ci : Nat) (r : vw_C), vwCl[ci]? = some r → ∀ w ∈ u_ws r.1 r.2.1 r.2.2, w ∈ jW := by
  intro ci r hc
  match ci, hc with
  | 0, hc => cases hc; decide +kernel
  | 1, hc => cases hc; decide +kernel
  | 2, hc => cases hc; decide +kernel
  | 3, hc => cases hc; decide +kernel
  | 4, hc => cases hc; decide +kernel
  | 5, hc => cases hc; decide +kernel
  | 6, hc => cases hc; decide +kernel
  | 7, hc => cases hc; decide +kernel
  | 8, hc => cases hc; decide +kernel
  | k + 9, hc => simp at hc
theorem jcl_ty : ∀ (ci : Nat) (r : vw_C), vwCl[ci]? = some r → ∀ k, k < r.2.2 → parseFieldDescriptor (r.2.1 k).2.2.1 = some (j_ty ci k) := by
  intro ci r hc
  match ci, hc with
  | 0, hc => cases hc; exact tyX0_ok
  | 1, hc => cases hc; exact tyX1_ok
  | 2, hc => cases hc; exact tyX4_ok
  | 3, hc => cases hc; exact tyX5_ok
  | 4, hc => cases hc; exact tyX6_ok
  | 5, hc => cases hc; exact tyX7_ok
  | 6, hc => cases hc; exact tyX9_ok
  | 7, hc => cases hc; exact tyX10_ok
  | 8, hc => cases hc; exact tyX11_ok
  | k + 9, hc => simp at hc
theorem jcl_nm : ∀ (ci : Nat) (r : vw_C), vwCl[ci]? = some r → ∀ a, a < r.2.2 → ∀ b, b < r.2.2 → a ≠ b → (r.2.1 a).2.1 ≠ (r.2.1 b).2.1 := by
  intro ci r hc
  match ci, hc with
  | 0, hc => cases hc; exact nmX0
  | 1, hc => cases hc; exact nmX1
  | 2, hc => cases hc; exact nmX4
  | 3, hc => cases hc; exact nmX5
  | 4, hc => cases hc; exact nmX6
  | 5, hc => cases hc; exact nmX7
  | 6, hc => cases hc; exact nmX9
  | 7, hc => cases hc; exact nmX10
  | 8, hc => cases hc; exact nmX11
  | k + 9, hc => simp at hc
theorem j_ad_new {G : jG} {k : Nat} (h : 10 ≤ k) : j_ad G k = G.2.1 + (k - 10) := if_neg (by omega)
theorem j_ad_in {G : jG} {k : Nat} (h : 10 ≤ k) : jbA G (j_ad G k) := by
  rw [j_ad_new h]
  exact Nat.le_add_right _ _
theorem j_ad_ne {G : jG} {k k' : Nat} (h : 10 ≤ k) (h' : 10 ≤ k') (n : k' ≠ k) : j_ad G k' ≠ j_ad G k := by
  rw [j_ad_new h, j_ad_new h']
  omega
/-- one cell has changed -/
theorem jhr.upd {G : jG} {h h1 : jH} {H H1 : Heap} {k : Nat} (hh : jhr G h H) (ok : jOK h) (eK : hK h1 = hK h) (eN : hN h1 = hN h) (eS : hS h1 = hS h) (kk : 1 ≤ hK h k) (kk2 : hK h k ≤ 16) (hz : H1.size = H.size) (ho : ∀ q, q ≠ j_ad G k → H1[q]? = H[q]?)
    (ob : ∀ r, hK h k ≤ 9 → vwCl[hK h k - 1]? = some r → t_OB (j_ad G k) (G.1.1 (hK h k - 1)) r.2.2 (G.1.2 (hK h k - 1)) H1 (j_fv G h1 (hK h k - 1) k))
    (ar : 10 ≤ hK h k → hK h k ≤ 15 → H1[j_ad G k]? = some (arrV (G.2.2.2.1 (hK h k - 10)) (hN h k).toNat (fun j => j_av G h1 k (j : Int))))
    (fo : ∀ ci k' j, k' ≠ k → j_fv G h1 ci k' j = j_fv G h ci k' j) (fa : ∀ k' j, k' ≠ k → j_av G h1 k' j = j_av G h k' j) (fs : k ≠ 4 → ∀ i, hA h1 4 i = hA h 4 i) : jhr G h1 H1 := by
  obtain ⟨z, o, a, sc⟩ := hh
  have k10 := (ok.2.2.1 k kk kk2).1
  refine ⟨by rw [hz, z, eS], fun k' r c1 c2 c3 => ?_, fun k' c1 c2 => ?_, fun c => ?_⟩
  · rw [eK] at c1 c2 c3 ⊢
    by_cases e : k' = k
    · subst e; exact ob r c2 c3
    · have k10' := (ok.2.2.1 k' c1 (by omega)).1
      exact ((o k' r c1 c2 c3).kept (ho _ (j_ad_ne k10 k10' e))).to (fun j _ => (fo _ k' j e).symm)
  · rw [eK] at c1 c2 ⊢
    rw [eN]
    by_cases e : k' = k
    · subst e; exact ar c1 c2
    · have k10' := (ok.2.2.1 k' (by omega) (by omega)).1
      rw [ho _ (j_ad_ne k10 k10' e), a k' c1 c2]
      simp only [fa k' _ e]
  · rw [eK] at c
    rw [eN]
    obtain ⟨s1, s2⟩ := sc c
    exact ⟨s1, fun j hj => by rw [fs (by omega)]; exact s2 j hj⟩
theorem jOK.sI {h : jH} (ok : jOK h) {f o : Nat} {v : Int} (hv : j32 v) : jOK (sI h f o v) := by
  refine ⟨fun f' o' => ?_, ok.2⟩
  show j32 (j2 _ f o v f' o')
  unfold j2
  split
  · exact hv
  · exact ok.1 _ _
theorem jOK.sR {h : jH} (ok : jOK h) {f o : Nat} {v : Nat} : jOK (sR h f o v) := ok
theorem jOK.sA {h : jH} (ok : jOK h) {a : Nat} {i v : Int} (hv : j_el (hK h a) v) : jOK (sA h a i v) := by
  refine ⟨ok.1, fun a' i' => ?_, ok.2.2⟩
  show j_el (hK h a') (ja _ a i v a' i')
  unfold ja
  split
  · rename_i e; rw [e.1]; exact hv
  · exact ok.2.1 _ _
theorem jOK.sQ {h : jH} (ok : jOK h) {a : Nat} {i : Int} {v : Nat} : jOK (sQ h a i v) := ok
section HP
variable {d : Nat} {y : jM} {pc : Nat} {ls : List (Nat × jV)} {st : List jV} {h : jH} {Q : jO → jH → Prop}
theorem j_s1 {st : List jV} {v : jV} (h : ∀ w ∈ v :: st, j_rg w) : ∀ w ∈ st, j_rg w := fun w hw => h w (List.mem_cons_of_mem _ hw)
theorem j_s2 {st : List jV} {v u : jV} (h : ∀ w ∈ v :: u :: st, j_rg w) : ∀ w ∈ st, j_rg w := j_s1 (j_s1 h)
theorem j_s3 {st : List jV} {v u t : jV} (h : ∀ w ∈ v :: u :: t :: st, j_rg w) : ∀ w ∈ st, j_rg w := j_s1 (j_s2 h)
/-- a read of a field -/
theorem wp_get {ci j o idx : Nat} {r : vw_C} (v : jV) (hc : vwCl[ci]? = some r) (hj : j < r.2.2) (hl : Cond.fieldLink y.1.cls idx (r.2.1 j).1 (r.2.1 j).2.1 (r.2.1 j).2.2.1 ∈ jW) (hd : decode y.2.1 pc = .ok (.getfield idx, 3)) (hk : hK h o = ci + 1)
    (hv : ∀ G : jG, j_fv G h ci o j = j_tr G v) (hr : jOK h → j_rg v) (k : j_rg v → jWp d y (pc + 3) ls (v :: st) h Q) : jWp d y pc ls (jR o :: st) h Q := by
  intro h1 h2 h3
  obtain ⟨oo, h', hq, ho, hrg, m1, m2, K⟩ := k (hr h1) h1 h2 (j_st1 (j_s1 h3) (hr h1))
  refine ⟨oo, h', hq, ho, hrg, m1, m2, fun p l e R s m args below meth c G S0 T0 C f1 f2 f3 f4 f5 f6 H locs lsl hle hh hS => ?_⟩
  have g := K p l e R s m args below meth c G S0 T0 C f1 f2 f3 f4 f5 f6 H locs lsl hle hh hS
  have hci : ci ≤ 8 := by
    have := (List.getElem?_eq_some_iff.mp hc).1
    simpa using Nat.lt_succ_iff.mp this
  have o10 := (h1.2.2.1 o (by omega) (by omega)).1
  have hob := hh.2.1 o r (by omega) (by omega) (by rw [hk]; exact hc)
  rw [hk, Nat.add_sub_cancel] at hob
  obtain ⟨c1, c2, c3, c4, c5, c6, c7, c8, c9, c10, c11⟩ := C
  obtain ⟨cell, q1, q2, q3, q4⟩ := hob
  obtain ⟨hSl, hfc, kC, hkC, hkind⟩ := c11.1.1 ci _ hc
  obtain ⟨cf, kf, fi, f, hi, hsl⟩ := hSl j hj
  show W p l e R s m args below meth c H locs _ _ _ (F0 m pc lsl (j_rv G o :: st.map (j_tr G)))
  rw [j_rd1 G (by omega : o ≠ 0)]
  refine W.getf c1 c2 c6 (c8 _ hl) hi (u_facts hfc hkC (u_lays c8 (jcl_in ci r hc) hj) hi).1 q1 (by rw [q3]; exact fun q => by cases q) (v := j_tr G v) ?_ rfl rfl hd g
  rw [hsl, q4 j hj, hv]
theorem wp_getI {ci j o idx : Nat} {r : vw_C} (hc : vwCl[ci]? = some r) (hj : j < r.2.2) (hl : Cond.fieldLink y.1.cls idx (r.2.1 j).1 (r.2.1 j).2.1 (r.2.1 j).2.2.1 ∈ jW) (hd : decode y.2.1 pc = .ok (.getfield idx, 3)) (hk : hK h o = ci + 1)
    (hty : j_isr (j_ty ci j) = false) (k : j32 (hI h (100 * ci + j) o) → jWp d y (pc + 3) ls (jI (hI h (100 * ci + j) o) :: st) h Q) : jWp d y pc ls (jR o :: st) h Q :=
  wp_get (jI (hI h (100 * ci + j) o)) hc hj hl hd hk (fun G => by unfold j_fv; rw [if_neg (by rw [hty]; decide)]; rfl) (fun ok => ok.1 _ _) k
theorem wp_getR {ci j o idx : Nat} {r : vw_C} (hc : vwCl[ci]? = some r) (hj : j < r.2.2) (hl : Cond.fieldLink y.1.cls idx (r.2.1 j).1 (r.2.1 j).2.1 (r.2.1 j).2.2.1 ∈ jW) (hd : decode y.2.1 pc = .ok (.getfield idx, 3)) (hk : hK h o = ci + 1)
    (hty : j_isr (j_ty ci j) = true) (k : jWp d y (pc + 3) ls (jR (hR h (100 * ci + j) o) :: st) h Q) : jWp d y pc ls (jR o :: st) h Q :=
  wp_get (jR (hR h (100 * ci + j) o)) hc hj hl hd hk (fun G => by unfold j_fv; rw [if_pos hty]; rfl) (fun _ => trivial) (fun _ => k)
end HP
