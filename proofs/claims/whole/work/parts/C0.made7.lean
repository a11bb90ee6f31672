/-! THE REFERENCE, MADE, 2 -/
section RJ
variable {d : Nat} {h : jH} {Q : jO → jH → Prop} {m : Nat}
theorem chk_i {a : Nat} {o : jOp} {t : List jOp} (C : chk h m a (o :: t)) (c : o.1 = 0) : hI h (800 + o.2.1) m = o.2.2.2.1 ∧ chk h m a t := by
  obtain ⟨C1, C2⟩ := C
  rw [if_pos c] at C1
  rw [show a + opN o = a from by unfold opN; rw [if_pos c]; rfl] at C2
  exact ⟨C1, C2⟩
theorem chk_a {a : Nat} {o : jOp} {t : List jOp} (C : chk h m a (o :: t)) (c : o.1 ≠ 0) : ((hR h (800 + o.2.1) m = m + a ∧ hK h (m + a) = o.1 ∧ hN h (m + a) = o.2.2.2.1) ∧ ∀ i, hA h (m + a) i = vI o.2.2.2.2 i) ∧ chk h m (a + 1) t := by
  obtain ⟨C1, C2⟩ := C
  rw [if_neg c] at C1
  rw [show a + opN o = a + 1 from by unfold opN; rw [if_neg c]] at C2
  exact ⟨C1, C2⟩
theorem chk_all (C0 : chk h m 1 iniO) : ((hR h (800 + 0) m = m + 1 ∧ hK h (m + 1) = 10 ∧ hN h (m + 1) = 640) ∧ ∀ i, hA h (m + 1) i = vI jRUL i) ∧ ((hR h (800 + 1) m = m + 2 ∧ hK h (m + 2) = 10 ∧ hN h (m + 2) = 600) ∧ ∀ i, hA h (m + 2) i = vI [] i) ∧ ((hR h (800 + 2) m = m + 3 ∧ hK h (m + 3) = 10 ∧ hN h (m + 3) = 600) ∧ ∀ i, hA h (m + 3) i = vI [] i) ∧ ((hR h (800 + 3) m = m + 4 ∧ hK h (m + 4) = 10 ∧ hN h (m + 4) = 600) ∧ ∀ i, hA h (m + 4) i = vI [] i) ∧ ((hR h (800 + 4) m = m + 5 ∧ hK h (m + 5) = 10 ∧ hN h (m + 5) = 600) ∧ ∀ i, hA h (m + 5) i = vI [] i) ∧ ((hR h (800 + 5) m = m + 6 ∧ hK h (m + 6) = 10 ∧ hN h (m + 6) = 600) ∧ ∀ i, hA h (m + 6) i = vI [] i) ∧ hI h (800 + 6) m = 0 ∧ ((hR h (800 + 7) m = m + 7 ∧ hK h (m + 7) = 10 ∧ hN h (m + 7) = 120) ∧ ∀ i, hA h (m + 7) i = vI [] i) ∧ ((hR h (800 + 8) m = m + 8 ∧ hK h (m + 8) = 10 ∧ hN h (m + 8) = 120) ∧ ∀ i, hA h (m + 8) i = vI [] i) ∧ ((hR h (800 + 9) m = m + 9 ∧ hK h (m + 9) = 10 ∧ hN h (m + 9) = 120) ∧ ∀ i, hA h (m + 9) i = vI [] i) ∧ ((hR h (800 + 10) m = m + 10 ∧ hK h (m + 10) = 12 ∧ hN h (m + 10) = 120) ∧ ∀ i, hA h (m + 10) i = vI [] i) ∧ hI h (800 + 11) m = 0 ∧ hI h (800 + 12) m = 0 ∧ ((hR h (800 + 13) m = m + 11 ∧ hK h (m + 11) = 10 ∧ hN h (m + 11) = 10) ∧ ∀ i, hA h (m + 11) i = vI [] i) ∧ ((hR h (800 + 14) m = m + 12 ∧ hK h (m + 12) = 10 ∧ hN h (m + 12) = 201) ∧ ∀ i, hA h (m + 12) i = vI [] i) ∧ ((hR h (800 + 15) m = m + 13 ∧ hK h (m + 13) = 10 ∧ hN h (m + 13) = 201) ∧ ∀ i, hA h (m + 13) i = vI [] i) ∧ ((hR h (800 + 16) m = m + 14 ∧ hK h (m + 14) = 10 ∧ hN h (m + 14) = 402) ∧ ∀ i, hA h (m + 14) i = vI [] i) ∧ ((hR h (800 + 17) m = m + 15 ∧ hK h (m + 15) = 11 ∧ hN h (m + 15) = 18100) ∧ ∀ i, hA h (m + 15) i = vI [] i) ∧ ((hR h (800 + 18) m = m + 16 ∧ hK h (m + 16) = 11 ∧ hN h (m + 16) = 600) ∧ ∀ i, hA h (m + 16) i = vI [] i) ∧ hI h (800 + 19) m = 0 ∧ ((hR h (800 + 20) m = m + 17 ∧ hK h (m + 17) = 11 ∧ hN h (m + 17) = 600) ∧ ∀ i, hA h (m + 17) i = vI [] i) ∧ hI h (800 + 21) m = 0 ∧ hI h (800 + 22) m = 2025 ∧ hI h (800 + 23) m = 0 ∧ hI h (800 + 24) m = (-1) ∧ hI h (800 + 25) m = 0 ∧ hI h (800 + 26) m = 0 ∧ ((hR h (800 + 27) m = m + 18 ∧ hK h (m + 18) = 10 ∧ hN h (m + 18) = 100) ∧ ∀ i, hA h (m + 18) i = vI [] i) ∧ ((hR h (800 + 28) m = m + 19 ∧ hK h (m + 19) = 10 ∧ hN h (m + 19) = 21) ∧ ∀ i, hA h (m + 19) i = vI [] i) ∧ hI h (800 + 29) m = 0 ∧ hI h (800 + 30) m = 0 ∧ hI h (800 + 31) m = 0 ∧ ((hR h (800 + 32) m = m + 20 ∧ hK h (m + 20) = 11 ∧ hN h (m + 20) = 4000) ∧ ∀ i, hA h (m + 20) i = vI [] i) ∧ hI h (800 + 33) m = 0 ∧ ((hR h (800 + 34) m = m + 21 ∧ hK h (m + 21) = 10 ∧ hN h (m + 21) = 106) ∧ ∀ i, hA h (m + 21) i = vI jWID i) ∧ ((hR h (800 + 35) m = m + 22 ∧ hK h (m + 22) = 10 ∧ hN h (m + 22) = 106) ∧ ∀ i, hA h (m + 22) i = vI [] i) ∧ ((hR h (800 + 37) m = m + 23 ∧ hK h (m + 23) = 10 ∧ hN h (m + 23) = 110) ∧ ∀ i, hA h (m + 23) i = vI [] i) ∧ hI h (800 + 38) m = 0 ∧ ((hR h (800 + 39) m = m + 24 ∧ hK h (m + 24) = 10 ∧ hN h (m + 24) = 102) ∧ ∀ i, hA h (m + 24) i = vI [] i) ∧ ((hR h (800 + 40) m = m + 25 ∧ hK h (m + 25) = 10 ∧ hN h (m + 25) = 102) ∧ ∀ i, hA h (m + 25) i = vI [] i) ∧ ((hR h (800 + 41) m = m + 26 ∧ hK h (m + 26) = 11 ∧ hN h (m + 26) = 50) ∧ ∀ i, hA h (m + 26) i = vI [] i) ∧ ((hR h (800 + 42) m = m + 27 ∧ hK h (m + 27) = 11 ∧ hN h (m + 27) = 2000) ∧ ∀ i, hA h (m + 27) i = vI [] i) ∧ hI h (800 + 43) m = 0 ∧ hI h (800 + 44) m = 0 ∧ hI h (800 + 45) m = 0 ∧ hI h (800 + 46) m = 0 ∧ ((hR h (800 + 47) m = m + 28 ∧ hK h (m + 28) = 10 ∧ hN h (m + 28) = 102) ∧ ∀ i, hA h (m + 28) i = vI [] i) ∧ ((hR h (800 + 48) m = m + 29 ∧ hK h (m + 29) = 10 ∧ hN h (m + 29) = 102) ∧ ∀ i, hA h (m + 29) i = vI [] i) ∧ hI h (800 + 49) m = 0 ∧ hI h (800 + 50) m = 0 ∧ hI h (800 + 51) m = 0 ∧ True := by
  have c0 := chk_a C0 (by decide)
  have C1 := c0.2
  have c1 := chk_a C1 (by decide)
  have C2 := c1.2
  have c2 := chk_a C2 (by decide)
  have C3 := c2.2
  have c3 := chk_a C3 (by decide)
  have C4 := c3.2
  have c4 := chk_a C4 (by decide)
  have C5 := c4.2
  have c5 := chk_a C5 (by decide)
  have C6 := c5.2
  have c6 := chk_i C6 rfl
  have C7 := c6.2
  have c7 := chk_a C7 (by decide)
  have C8 := c7.2
  have c8 := chk_a C8 (by decide)
  have C9 := c8.2
  have c9 := chk_a C9 (by decide)
  have C10 := c9.2
  have c10 := chk_a C10 (by decide)
  have C11 := c10.2
  have c11 := chk_i C11 rfl
  have C12 := c11.2
  have c12 := chk_i C12 rfl
  have C13 := c12.2
  have c13 := chk_a C13 (by decide)
  have C14 := c13.2
  have c14 := chk_a C14 (by decide)
  have C15 := c14.2
  have c15 := chk_a C15 (by decide)
  have C16 := c15.2
  have c16 := chk_a C16 (by decide)
  have C17 := c16.2
  have c17 := chk_a C17 (by decide)
  have C18 := c17.2
  have c18 := chk_a C18 (by decide)
  have C19 := c18.2
  have c19 := chk_i C19 rfl
  have C20 := c19.2
  have c20 := chk_a C20 (by decide)
  have C21 := c20.2
  have c21 := chk_i C21 rfl
  have C22 := c21.2
  have c22 := chk_i C22 rfl
  have C23 := c22.2
  have c23 := chk_i C23 rfl
  have C24 := c23.2
  have c24 := chk_i C24 rfl
  have C25 := c24.2
  have c25 := chk_i C25 rfl
  have C26 := c25.2
  have c26 := chk_i C26 rfl
  have C27 := c26.2
  have c27 := chk_a C27 (by decide)
  have C28 := c27.2
  have c28 := chk_a C28 (by decide)
  have C29 := c28.2
  have c29 := chk_i C29 rfl
  have C30 := c29.2
  have c30 := chk_i C30 rfl
  have C31 := c30.2
  have c31 := chk_i C31 rfl
  have C32 := c31.2
  have c32 := chk_a C32 (by decide)
  have C33 := c32.2
  have c33 := chk_i C33 rfl
  have C34 := c33.2
  have c34 := chk_a C34 (by decide)
  have C35 := c34.2
  have c35 := chk_a C35 (by decide)
  have C36 := c35.2
  have c36 := chk_a C36 (by decide)
  have C37 := c36.2
  have c37 := chk_i C37 rfl
  have C38 := c37.2
  have c38 := chk_a C38 (by decide)
  have C39 := c38.2
  have c39 := chk_a C39 (by decide)
  have C40 := c39.2
  have c40 := chk_a C40 (by decide)
  have C41 := c40.2
  have c41 := chk_a C41 (by decide)
  have C42 := c41.2
  have c42 := chk_i C42 rfl
  have C43 := c42.2
  have c43 := chk_i C43 rfl
  have C44 := c43.2
  have c44 := chk_i C44 rfl
  have C45 := c44.2
  have c45 := chk_i C45 rfl
  have C46 := c45.2
  have c46 := chk_a C46 (by decide)
  have C47 := c46.2
  have c47 := chk_a C47 (by decide)
  have C48 := c47.2
  have c48 := chk_i C48 rfl
  have C49 := c48.2
  have c49 := chk_i C49 rfl
  have C50 := c49.2
  have c50 := chk_i C50 rfl
  have C51 := c50.2
  exact ⟨c0.1, c1.1, c2.1, c3.1, c4.1, c5.1, c6.1, c7.1, c8.1, c9.1, c10.1, c11.1, c12.1, c13.1, c14.1, c15.1, c16.1, c17.1, c18.1, c19.1, c20.1, c21.1, c22.1, c23.1, c24.1, c25.1, c26.1, c27.1, c28.1, c29.1, c30.1, c31.1, c32.1, c33.1, c34.1, c35.1, c36.1, c37.1, c38.1, c39.1, c40.1, c41.1, c42.1, c43.1, c44.1, c45.1, c46.1, c47.1, c48.1, c49.1, c50.1, trivial⟩
theorem vI_nil (i : Int) : vI [] i = 0 := by
  unfold vI
  rw [if_neg (by simp)]
theorem tabs_is : ∃ A P, tbM 300 jRUL [] [] = some (A, P) ∧ A.map (fun x => x.1) = aNl ∧ A.map (fun x => x.2.1) = aDl ∧ A.map (fun x => x.2.2.1) = aPl ∧ A.map (fun x => x.2.2.2.1) = aFl ∧ A.map (fun x => x.2.2.2.2) = aCl ∧ P.map (fun x => x.1) = pSl ∧ P.map (fun x => x.2.1) = pLl ∧ P.map (fun x => x.2.2.1) = pMl ∧ P.map (fun x => x.2.2.2) = pOl := by
  have h := chkT_ok
  unfold chkT at h
  generalize tbM 300 jRUL [] [] = r at h
  match r, h with
  | some (A, P), h =>
    simp only [Bool.and_eq_true, beq_iff_eq] at h
    obtain ⟨⟨⟨⟨⟨⟨⟨⟨h1, h2⟩, h3⟩, h4⟩, h5⟩, h6⟩, h7⟩, h8⟩, h9⟩ := h
    exact ⟨A, P, rfl, h1, h2, h3, h4, h5, h6, h7, h8, h9⟩
theorem mapD {α : Type} (f : α → Int) (A : List α) (z : α) {l : List Int} (e : A.map f = l) {i : Nat} (hi : i < A.length) : f (A.getD i z) = l.getD i 0 := by
  rw [← e, List.getD_eq_getElem?_getD, List.getD_eq_getElem?_getD, List.getElem?_map, List.getElem?_eq_getElem hi]
  rfl
theorem pSl_len : pSl.length = 61 := by decide +kernel
theorem v_init {sz : Nat} (k : ∀ h', jMk h h' 30 (sz + 31135) → isMD h' (hS h) jP0 → Q (.inl none) h') : jCall (d + 3) mX11_init [jR (hS h)] (sN h 9 0 sz) Q := by
  obtain ⟨m, hm⟩ : ∃ m, m = hS h := ⟨_, .refl _⟩
  rw [← hm] at k ⊢
  refine jCall_of plX11 (Nat.le_of_ble_eq_true rfl) ?_
  show jWp (d + 3) mX11_init 0 [(0, jR m)] [] (sN h 9 0 sz) Q
  refine jw_ok (fun ok _ => ?_)
  have z : 10 ≤ hS h + 1 := ok.2.2.2.1
  refine wp_aload_n (y := mX11_init) 0 (dec_al0 ini_bs.1) rfl ?_
  refine wp_objInit (y := mX11_init) (dec_isp ini_bs.2.1 ini_bs.2.2.1 ini_bs.2.2.2.1) kX11_1 (by omega) (Nat.le_of_ble_eq_true rfl) ?_
  have K0 : hK (sN h 9 0 sz) m = 9 := by rw [hK_sN, if_pos hm]
  have S0 : hS (sN h 9 0 sz) = m + 1 := by rw [hS_sN]; omega
  refine wp_ops iniO 4 _ ini_ok K0 (by omega) ini_bs4.1 ?_
  rw [ini_len]
  obtain ⟨p1, p2, p3, p4, p5, p6, p7⟩ := ops_spec iniO (sN h 9 0 sz) 1 S0 (by decide) K0 (by decide +kernel)
  have u0 : uFr 0 m h (sN h 9 0 sz) := uFr.sN (by omega) _ _ _
  have I0 : ∀ f, hI (sN h 9 0 sz) f m = 0 := fun f => by rw [hI_sN, if_pos hm]
  generalize opsH (sN h 9 0 sz) m iniO = g at *
  have C := chk_all p7
  have S : mSh g m := ⟨p5, C.1.1, C.2.1.1, C.2.2.1.1, C.2.2.2.1.1, C.2.2.2.2.1.1, C.2.2.2.2.2.1.1, C.2.2.2.2.2.2.2.1.1, C.2.2.2.2.2.2.2.2.1.1, C.2.2.2.2.2.2.2.2.2.1.1, C.2.2.2.2.2.2.2.2.2.2.1.1, C.2.2.2.2.2.2.2.2.2.2.2.2.2.1.1, C.2.2.2.2.2.2.2.2.2.2.2.2.2.2.1.1, C.2.2.2.2.2.2.2.2.2.2.2.2.2.2.2.1.1, C.2.2.2.2.2.2.2.2.2.2.2.2.2.2.2.2.1.1, C.2.2.2.2.2.2.2.2.2.2.2.2.2.2.2.2.2.1.1, C.2.2.2.2.2.2.2.2.2.2.2.2.2.2.2.2.2.2.1.1, C.2.2.2.2.2.2.2.2.2.2.2.2.2.2.2.2.2.2.2.2.1.1, C.2.2.2.2.2.2.2.2.2.2.2.2.2.2.2.2.2.2.2.2.2.2.2.2.2.2.2.1.1, C.2.2.2.2.2.2.2.2.2.2.2.2.2.2.2.2.2.2.2.2.2.2.2.2.2.2.2.2.1.1, C.2.2.2.2.2.2.2.2.2.2.2.2.2.2.2.2.2.2.2.2.2.2.2.2.2.2.2.2.2.2.2.2.1.1, C.2.2.2.2.2.2.2.2.2.2.2.2.2.2.2.2.2.2.2.2.2.2.2.2.2.2.2.2.2.2.2.2.2.2.1.1, C.2.2.2.2.2.2.2.2.2.2.2.2.2.2.2.2.2.2.2.2.2.2.2.2.2.2.2.2.2.2.2.2.2.2.2.1.1, C.2.2.2.2.2.2.2.2.2.2.2.2.2.2.2.2.2.2.2.2.2.2.2.2.2.2.2.2.2.2.2.2.2.2.2.2.1.1, C.2.2.2.2.2.2.2.2.2.2.2.2.2.2.2.2.2.2.2.2.2.2.2.2.2.2.2.2.2.2.2.2.2.2.2.2.2.2.1.1, C.2.2.2.2.2.2.2.2.2.2.2.2.2.2.2.2.2.2.2.2.2.2.2.2.2.2.2.2.2.2.2.2.2.2.2.2.2.2.2.1.1, C.2.2.2.2.2.2.2.2.2.2.2.2.2.2.2.2.2.2.2.2.2.2.2.2.2.2.2.2.2.2.2.2.2.2.2.2.2.2.2.2.1.1, C.2.2.2.2.2.2.2.2.2.2.2.2.2.2.2.2.2.2.2.2.2.2.2.2.2.2.2.2.2.2.2.2.2.2.2.2.2.2.2.2.2.1.1, C.2.2.2.2.2.2.2.2.2.2.2.2.2.2.2.2.2.2.2.2.2.2.2.2.2.2.2.2.2.2.2.2.2.2.2.2.2.2.2.2.2.2.2.2.2.2.1.1, C.2.2.2.2.2.2.2.2.2.2.2.2.2.2.2.2.2.2.2.2.2.2.2.2.2.2.2.2.2.2.2.2.2.2.2.2.2.2.2.2.2.2.2.2.2.2.2.1.1⟩
  have K : tB g m [] [] := ⟨S, C.1.2, ⟨C.2.2.2.2.2.2.1, C.2.2.2.2.2.2.2.2.2.2.2.1, by simp, by simp⟩, fun i hi => absurd hi (by simp), fun i hi => absurd hi (by simp)⟩
  obtain ⟨A, P, e0, e1, e2, e3, e4, e5, e6, e7, e8, e9⟩ := tabs_is
  refine wp_aload_n (y := mX11_init) 0 (dec_al0 (zAt 0 rfl)) rfl ?_
  refine wp_callV (y := mX11_init) (ci := 8) (y' := mX11_tables) (st := []) [] rfl rfl rfl fX11_tables kX11_273 nX11_tables (dec_ivi (zAt 1 rfl) (zAt 2 rfl) (zAt 3 rfl)) (Nat.le_of_ble_eq_true rfl) S.k ?_
  refine bX11_tables (fun _ => n_tab_loop (d := d) 300 0 jRUL g [] [] A P rfl (by decide) K e0 (fun g1 f1 K1 => ?_))
  show jWp (d + 3) mX11_init 5031 [(0, jR m)] [] g1 Q
  refine wp_iconst (y := mX11_init) (n := 0) (dec_icn (zAt 4 rfl) (by decide)) ⟨by decide, by decide⟩ ?_
  refine wp_istore_n (y := mX11_init) [1, 0] (ls' := [(0, jR m), (1, jI 0)]) (dec_is1 (zAt 5 rfl)) (by decide) rfl ?_
  refine n_shape_loop (d := d + 2) (g := g1) 106 0 g1 (by decide) K1.1 .rfl (fun j => ?_) (fun j hj => absurd hj (by omega)) (fun g2 f2 S2 T2 => ?_)
  · rw [f1.a (by decide)]
    exact C.2.2.2.2.2.2.2.2.2.2.2.2.2.2.2.2.2.2.2.2.2.2.2.2.2.2.2.2.2.2.2.2.2.2.1.2 j
  refine n_stop S2 (k _ ?_ ?_)
  · refine ⟨?_, ?_, ?_⟩
    · rw [← hm]; show hS g2 = _
      rw [f2.1.2.2.2.2.1, f1.1.2.2.2.2.1, p1]
      rfl
    · show hT g2 = _
      rw [f2.1.2.2.2.2.2, f1.1.2.2.2.2.2, p2, hT_sN, show sltO iniO = 31135 from by decide +kernel]
      omega
    · rw [← hm]
      exact (((u0.trans p3).trans (f1.u (Nat.le_refl _))).trans (f2.u (Nat.le_refl _))).sI (.inr (Nat.le_refl _))
  have f3 : mFr m [836] [] g2 (sI g2 836 m patS) := mFr.rfl.sI (by decide)
  have F : mFr m [806, 811, 836] [2, 3, 4, 5, 6, 7, 8, 9, 10, 22] g (sI g2 836 m patS) := ((f1.mono (by decide) (by decide)).trans (f2.mono (by decide) (by decide))).trans (f3.mono (by decide) (by decide))
  obtain ⟨_, _, ⟨c1, c2, _, _⟩, TA, TP⟩ := K1
  have lA : A.length = 457 := by rw [← aNl_len, ← e1, List.length_map]
  have lP : P.length = 61 := by rw [← pSl_len, ← e6, List.length_map]
  have row : ∀ (c b N : Nat), hI g c m = 0 → (c ≠ 806 ∧ c ≠ 811 ∧ c ≠ 836) → mRow (sI g2 836 m patS) m c b N [] := fun c b N e q => ⟨(F.i (by simp; omega)).trans e, Nat.zero_le _, fun i hi => absurd hi (by simp)⟩
  have ls : ∀ c : Int, mLst (sI g2 836 m patS) m c [] := fun c => ⟨by rw [F.a (by decide), C.2.2.2.2.2.2.2.2.2.2.2.2.2.1.2]; exact vI_nil c, Nat.zero_le _, fun i hi => absurd hi (by simp)⟩
  refine ⟨F.sh S, ⟨?_, ?_, fun i h0 h1 => ?_, fun i h0 h1 => ?_, fun i hi => ?_, ?_⟩, row _ _ _ C.2.2.2.2.2.2.2.2.2.2.2.2.2.2.2.2.2.2.2.1 (by decide), row _ _ _ C.2.2.2.2.2.2.2.2.2.2.2.2.2.2.2.2.2.2.2.2.2.2.2.2.2.2.2.2.2.2.2.2.2.1 (by decide), row _ _ _ C.2.2.2.2.2.2.2.2.2.2.2.2.2.2.2.2.2.2.2.2.2.2.2.2.2.2.2.2.2.2.2.2.2.2.2.2.2.2.2.2.2.2.1 (by decide), row _ _ _ C.2.2.2.2.2.2.2.2.2.2.2.2.2.2.2.2.2.2.2.2.2.2.2.2.2.2.2.2.2.2.2.2.2.2.2.2.2.1 (by decide), ⟨ls _, fun i hi => ls _⟩, ⟨(F.i (by decide)).trans C.2.2.2.2.2.2.2.2.2.2.2.2.2.2.2.2.2.2.2.2.2.2.1, (F.i (by decide)).trans C.2.2.2.2.2.2.2.2.2.2.2.2.2.2.2.2.2.2.2.2.2.2.2.1, (F.i (by decide)).trans C.2.2.2.2.2.2.2.2.2.2.2.2.2.2.2.2.2.2.2.2.2.2.2.2.1⟩, ⟨(F.i (by decide)).trans C.2.2.2.2.2.2.2.2.2.2.2.2.2.2.2.2.2.2.2.2.2.2.2.2.2.2.2.2.2.2.2.2.2.2.2.2.2.2.2.2.2.2.2.2.2.2.2.2.1, (F.i (by decide)).trans C.2.2.2.2.2.2.2.2.2.2.2.2.2.2.2.2.2.2.2.2.2.2.2.2.2.2.2.2.2.2.2.2.2.2.2.2.2.2.2.2.2.2.2.2.2.2.2.2.2.1, (F.i (by decide)).trans C.2.2.2.2.2.2.2.2.2.2.2.2.2.2.2.2.2.2.2.2.2.2.2.2.2.2.2.2.2.2.2.2.2.2.2.2.2.2.2.2.2.2.2.2.2.2.2.2.2.2.1⟩⟩
  · rw [f3.i (by decide), f2.i (by decide), c1, lA]; rfl
  · rw [f3.i (by decide), f2.i (by decide), c2, lP]; rfl
  · obtain ⟨q, rfl⟩ : ∃ q : Nat, i = q := ⟨i.toNat, by omega⟩
    have t := TA q (by omega)
    simp only [hA_sI, f2.a (show 2 ∉ [22] by decide), f2.a (show 3 ∉ [22] by decide), f2.a (show 4 ∉ [22] by decide), f2.a (show 5 ∉ [22] by decide), f2.a (show 6 ∉ [22] by decide)]
    unfold aN aD aP aF aC
    rw [Int.toNat_natCast, t.1, t.2.1, t.2.2.1, t.2.2.2.1, t.2.2.2.2]
    exact ⟨mapD _ A z5 e1 (by omega), mapD _ A z5 e2 (by omega), mapD _ A z5 e3 (by omega), mapD _ A z5 e4 (by omega), mapD _ A z5 e5 (by omega)⟩
  · obtain ⟨q, rfl⟩ : ∃ q : Nat, i = q := ⟨i.toNat, by omega⟩
    have t := TP q (by omega)
    simp only [hA_sI, f2.a (show 7 ∉ [22] by decide), f2.a (show 8 ∉ [22] by decide), f2.a (show 9 ∉ [22] by decide), f2.a (show 10 ∉ [22] by decide)]
    unfold pS pL pM pO
    rw [Int.toNat_natCast, t.1, t.2.1, t.2.2.1, t.2.2.2]
    exact ⟨mapD _ P z4 e6 (by omega), mapD _ P z4 e7 (by omega), mapD _ P z4 e8 (by omega), mapD _ P z4 e9 (by omega)⟩
  · rw [hA_sI]; exact T2 i hi
  · rw [hI_sI, if_pos ⟨rfl, rfl⟩]
end RJ
