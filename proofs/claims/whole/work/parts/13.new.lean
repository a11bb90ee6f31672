/-! WHAT IS MADE -/
theorem j1_eq {α : Type} {f : Nat → α} {a : Nat} {v : α} : j1 f a v a = v := if_pos rfl
theorem j1_ne {α : Type} {f : Nat → α} {a x : Nat} {v : α} (h : x ≠ a) : j1 f a v x = f x := if_neg h
theorem jOK.sN {h : jH} (ok : jOK h) {kd : Nat} {n : Int} {sz : Nat} (hn : 0 ≤ n ∧ n < 2147483648) : jOK (sN h kd n sz) := by
  refine ⟨fun f o => ?_, fun a i => ?_, fun k h1 h2 => ?_, ?_, fun k => ?_⟩
  · show j32 (if o = hS h then 0 else h.1 f o)
    split
    · exact j_r0
    · exact ok.1 _ _
  · show j_el (j1 _ (hS h) kd a) (if a = hS h then 0 else h.2.2.1 a i)
    by_cases e : a = hS h
    · rw [if_pos e]
      unfold j_el
      split
      · decide
      · split
        · decide
        · split
          · exact ⟨by decide, by decide⟩
          · exact j_r0
    · rw [if_neg e, j1_ne e]
      exact ok.2.1 _ _
  · have h3 : 1 ≤ j1 (hK h) (hS h) kd k := h1
    have h4 : j1 (hK h) (hS h) kd k ≤ 16 := h2
    show 10 ≤ k ∧ k < hS h + 1
    by_cases e : k = hS h
    · subst e
      exact ⟨ok.2.2.2.1, by omega⟩
    · rw [j1_ne e] at h3 h4
      have := ok.2.2.1 k h3 h4
      omega
  · show 10 ≤ hS h + 1
    have := ok.2.2.2.1
    omega
  · show 0 ≤ j1 _ (hS h) n k ∧ j1 _ (hS h) n k < 2147483648
    by_cases e : k = hS h
    · subst e; rw [j1_eq]; exact hn
    · rw [j1_ne e]; exact ok.2.2.2.2 k
theorem jhr.new {G : jG} {h : jH} {H H1 : Heap} {kd : Nat} {n : Int} {sz : Nat} (hh : jhr G h H) (ok : jOK h) (z : H1.size = H.size + 1) (o1 : ∀ q, q < H.size → H1[q]? = H[q]?)
    (ob : ∀ r, 1 ≤ kd → kd ≤ 9 → vwCl[kd - 1]? = some r → t_OB H.size (G.1.1 (kd - 1)) r.2.2 (G.1.2 (kd - 1)) H1 (fun j => if j_isr (j_ty (kd - 1) j) = true then .null else .int 0))
    (ar : 10 ≤ kd → kd ≤ 15 → H1[H.size]? = some (arrV (G.2.2.2.1 (kd - 10)) n.toNat (fun _ => if 14 ≤ kd then .null else if kd = 13 then .long 0 else .int 0))) : jhr G (sN h kd n sz) H1 := by
  obtain ⟨z0, o, a, sc⟩ := hh
  have s10 := ok.2.2.2.1
  have ead : j_ad G (hS h) = H.size := by rw [j_ad_new s10, z0]
  have hold : ∀ k, 1 ≤ hK h k → hK h k ≤ 16 → j_ad G k < H.size := by
    intro k h1 h2
    have := ok.2.2.1 k h1 h2
    rw [j_ad_new this.1, z0]
    omega
  refine ⟨?_, fun k r c1 c2 c3 => ?_, fun k c1 c2 => ?_, fun c => ?_⟩
  · show H1.size = G.2.1 + (hS h + 1 - 10)
    omega
  · by_cases e : k = hS h
    · subst e
      have eK : hK (sN h kd n sz) (hS h) = kd := j1_eq
      rw [eK] at c1 c2 c3 ⊢
      rw [ead]
      refine (ob r c1 c2 c3).to (fun j _ => ?_)
      unfold j_fv
      show _ = if j_isr (j_ty (kd - 1) j) = true then j_rv G (if hS h = hS h then 0 else _) else Value.int (Int32.ofInt (if hS h = hS h then 0 else _))
      rw [if_pos rfl, if_pos rfl]
      rfl
    · have eK : hK (sN h kd n sz) k = hK h k := j1_ne e
      rw [eK] at c1 c2 c3 ⊢
      refine ((o k r c1 c2 c3).kept (o1 _ (hold k c1 (by omega)))).to (fun j _ => ?_)
      unfold j_fv
      show _ = if j_isr _ = true then j_rv G (if k = hS h then 0 else _) else Value.int (Int32.ofInt (if k = hS h then 0 else _))
      rw [if_neg e, if_neg e]
  · by_cases e : k = hS h
    · subst e
      have eK : hK (sN h kd n sz) (hS h) = kd := j1_eq
      have eN : hN (sN h kd n sz) (hS h) = n := j1_eq
      rw [eK] at c1 c2 ⊢
      rw [ead, eN, ar c1 c2]
      congr 2
      funext j
      unfold j_av
      rw [eK]
      show _ = if 14 ≤ kd then j_rv G (if hS h = hS h then 0 else _) else if kd = 13 then Value.long (Int64.ofInt (if hS h = hS h then 0 else _)) else Value.int (Int32.ofInt (if hS h = hS h then 0 else _))
      rw [if_pos rfl, if_pos rfl]
      rfl
    · have eK : hK (sN h kd n sz) k = hK h k := j1_ne e
      have eN : hN (sN h kd n sz) k = hN h k := j1_ne e
      rw [eK] at c1 c2 ⊢
      rw [eN, o1 _ (hold k (by omega) (by omega)), a k c1 c2]
      congr 2
      funext j
      unfold j_av
      rw [eK]
      show _ = if 14 ≤ hK h k then j_rv G (if k = hS h then 0 else _) else if hK h k = 13 then Value.long (Int64.ofInt (if k = hS h then 0 else _)) else Value.int (Int32.ofInt (if k = hS h then 0 else _))
      rw [if_neg e, if_neg e]
  · have e : (4 : Nat) ≠ hS h := by omega
    have eK : hK (sN h kd n sz) 4 = hK h 4 := j1_ne e
    have eN : hN (sN h kd n sz) 4 = hN h 4 := j1_ne e
    rw [eK] at c
    obtain ⟨s1, s2⟩ := sc c
    refine ⟨by rw [eN]; exact s1, fun j hj => ?_⟩
    show _ = Int32.ofInt (if (4 : Nat) = hS h then 0 else _)
    rw [if_neg e]
    exact s2 j hj
theorem j_ty_all (ci j : Nat) : j_ty ci j = .int ∨ j_ty ci j = .boolean ∨ (∃ n, j_ty ci j = .object n) ∨ ∃ q, j_ty ci j = .array q := by
  have key : ∀ f : Nat → FieldType, (f = tyX0 ∨ f = tyX1 ∨ f = tyX4 ∨ f = tyX5 ∨ f = tyX6 ∨ f = tyX7 ∨ f = tyX9 ∨ f = tyX10 ∨ f = tyX11) → (f j = .int ∨ f j = .boolean ∨ (∃ n, f j = .object n) ∨ ∃ q, f j = .array q) := by
    rintro f (rfl | rfl | rfl | rfl | rfl | rfl | rfl | rfl | rfl)
    · unfold tyX0; split <;> first | exact Or.inl rfl | exact Or.inr (Or.inl rfl) | exact Or.inr (Or.inr (Or.inl ⟨_, rfl⟩)) | exact Or.inr (Or.inr (Or.inr ⟨_, rfl⟩))
    · unfold tyX1; split <;> first | exact Or.inl rfl | exact Or.inr (Or.inl rfl) | exact Or.inr (Or.inr (Or.inl ⟨_, rfl⟩)) | exact Or.inr (Or.inr (Or.inr ⟨_, rfl⟩))
    · unfold tyX4; split <;> first | exact Or.inl rfl | exact Or.inr (Or.inl rfl) | exact Or.inr (Or.inr (Or.inl ⟨_, rfl⟩)) | exact Or.inr (Or.inr (Or.inr ⟨_, rfl⟩))
    · unfold tyX5; split <;> first | exact Or.inl rfl | exact Or.inr (Or.inl rfl) | exact Or.inr (Or.inr (Or.inl ⟨_, rfl⟩)) | exact Or.inr (Or.inr (Or.inr ⟨_, rfl⟩))
    · unfold tyX6; split <;> first | exact Or.inl rfl | exact Or.inr (Or.inl rfl) | exact Or.inr (Or.inr (Or.inl ⟨_, rfl⟩)) | exact Or.inr (Or.inr (Or.inr ⟨_, rfl⟩))
    · unfold tyX7; split <;> first | exact Or.inl rfl | exact Or.inr (Or.inl rfl) | exact Or.inr (Or.inr (Or.inl ⟨_, rfl⟩)) | exact Or.inr (Or.inr (Or.inr ⟨_, rfl⟩))
    · unfold tyX9; split <;> first | exact Or.inl rfl | exact Or.inr (Or.inl rfl) | exact Or.inr (Or.inr (Or.inl ⟨_, rfl⟩)) | exact Or.inr (Or.inr (Or.inr ⟨_, rfl⟩))
    · unfold tyX10; split <;> first | exact Or.inl rfl | exact Or.inr (Or.inl rfl) | exact Or.inr (Or.inr (Or.inl ⟨_, rfl⟩)) | exact Or.inr (Or.inr (Or.inr ⟨_, rfl⟩))
    · unfold tyX11; split <;> first | exact Or.inl rfl | exact Or.inr (Or.inl rfl) | exact Or.inr (Or.inr (Or.inl ⟨_, rfl⟩)) | exact Or.inr (Or.inr (Or.inr ⟨_, rfl⟩))
  have h2 : j_ty ci = tyX0 ∨ j_ty ci = tyX1 ∨ j_ty ci = tyX4 ∨ j_ty ci = tyX5 ∨ j_ty ci = tyX6 ∨ j_ty ci = tyX7 ∨ j_ty ci = tyX9 ∨ j_ty ci = tyX10 ∨ j_ty ci = tyX11 := by
    unfold j_ty
    split <;> simp
  exact key _ h2
section HP
variable {d : Nat} {y : jM} {pc : Nat} {ls : List (Nat × jV)} {st : List jV} {h : jH} {Q : jO → jH → Prop}
theorem va_S_new {A : Nat → Prop} {H0 H H1 : Heap} {locs : List Loc} (h : va_S A H0 H locs) (z : H1.size = H.size + 1) (o1 : ∀ q, q < H.size → H1[q]? = H[q]?) : va_S A H0 H1 locs :=
  ⟨Nat.le_trans h.1 (by omega), fun x h1 h2 => (o1 x (Nat.lt_of_lt_of_le h1 h.1)).trans (h.2.1 x h1 h2), h.2.2⟩
/-- a new object -/
theorem wp_new {ci idx : Nat} {r : vw_C} (hc : vwCl[ci]? = some r) (hl : Cond.classLink y.1.cls idx r.1 ∈ jW) (hi : Cond.instantiable r.1 r.2.2 ∈ jW) (hini : Cond.initialized r.1 ∈ jW) (hd : decode y.2.1 pc = .ok (.new idx, 3))
    (k : jWp d y (pc + 3) ls (jR (hS h) :: st) (sN h (ci + 1) 0 r.2.2) Q) : jWp d y pc ls st h Q := by
  intro ok h2 h3
  obtain ⟨oo, h', hq, ho, hrg, m1, m2, K⟩ := k (ok.sN (by decide)) h2 (j_st1 (v := jR _) h3 trivial)
  have m1' : hS h + 1 ≤ hS h' := m1
  have m2' : hT h + r.2.2 ≤ hT h' := m2
  refine ⟨oo, h', hq, ho, hrg, by omega, by omega, fun p l e R s m args below meth c G S0 T0 C f1 f2 f3 f4 f5 f6 H locs lsl hle hh hS9 => ?_⟩
  have g := fun (H1 : Heap) => K p l e R s m args below meth c G S0 T0 C f1 f2 (show S0 ≤ hS h + 1 by omega) (show T0 ≤ hT h + r.2.2 by omega) f5 f6 H1 locs lsl hle
  have eS : hS (sN h (ci + 1) 0 r.2.2) - S0 = (hS h - S0) + 1 := by show hS h + 1 - S0 = _; omega
  have eT : hT (sN h (ci + 1) 0 r.2.2) - T0 = (hT h - T0) + r.2.2 := by show hT h + r.2.2 - T0 = _; omega
  rw [eS, eT] at g
  have hci := j_ci hc
  have ead : j_rv G (hS h) = .ref H.size := by
    rw [j_rd1 G (by have := ok.2.2.2.1; omega), j_ad_new ok.2.2.2.1, hh.1]
  obtain ⟨c1, c2, c3, c4, c5, c6, c7, c8, c9, c10, c11⟩ := C
  have hKn := c11.1.1 ci _ hc
  refine W.newcK c1 c2 c6 (c8 _ hl) (c8 _ hi) (c8 _ hini) rfl hd (by omega) (by omega) hKn.2.1 rfl fun H1 kC hkC e1 z1 o1 => ?_
  have g2 := g H1 (hh.new ok z1 o1 (fun r' _ _ hr' => ?_) (fun q => absurd q (by omega))) (va_S_new hS9 z1 o1)
  · have g3 : W p l e R s m args below meth c H1 locs _ _ _ (F0 m (pc + 3) lsl (j_rv G (hS h) :: st.map (j_tr G))) := g2
    rw [ead] at g3
    exact g3
  · rw [Nat.add_sub_cancel] at hr' ⊢
    have hrr : r' = r := Option.some.inj (hr'.symm.trans hc)
    subst hrr
    refine (u_born (j_ty ci) c8 (jcl_in ci _ hc) hKn hkC e1 (jcl_ty ci _ hc)).to (fun j hj => ?_)
    have h9 := jcl_ty ci _ hc j hj
    have key : ∀ t : FieldType, (t = .int ∨ t = .boolean ∨ (∃ n, t = .object n) ∨ ∃ q, t = .array q) → defaultValue t = if j_isr t = true then .null else .int 0 := by
      rintro t (rfl | rfl | ⟨n, rfl⟩ | ⟨q, rfl⟩) <;> rfl
    refine key _ ?_
    exact j_ty_all ci j
/-- a new array of numbers -/
theorem wp_newa {n : Int} {at' : ArrayType} {kd : Nat} {ty : FieldType} (hty : newarray.typeOf at' = ty) (hkd : kd = 10 ∧ ty = .int ∨ kd = 11 ∧ ty = .byte ∨ kd = 12 ∧ ty = .boolean ∨ kd = 13 ∧ ty = .long) (hw : Cond.arrayClass ty ∈ jW) (hd : decode y.2.1 pc = .ok (.newarray at', 2)) (h0 : 0 ≤ n ∧ n ≤ 1000000)
    (k : jWp d y (pc + 2) ls (jR (hS h) :: st) (sN h kd n n.toNat) Q) : jWp d y pc ls (jI n :: st) h Q := by
  intro ok h2 h3
  obtain ⟨oo, h', hq, ho, hrg, m1, m2, K⟩ := k (ok.sN ⟨by omega, by omega⟩) h2 (j_st1 (v := jR _) (j_s1 h3) trivial)
  have m1' : hS h + 1 ≤ hS h' := m1
  have m2' : hT h + n.toNat ≤ hT h' := m2
  refine ⟨oo, h', hq, ho, hrg, by omega, by omega, fun p l e R s m args below meth c G S0 T0 C f1 f2 f3 f4 f5 f6 H locs lsl hle hh hS9 => ?_⟩
  have g := fun (H1 : Heap) => K p l e R s m args below meth c G S0 T0 C f1 f2 (show S0 ≤ hS h + 1 by omega) (show T0 ≤ hT h + n.toNat by omega) f5 f6 H1 locs lsl hle
  have eS : hS (sN h kd n n.toNat) - S0 = (hS h - S0) + 1 := by show hS h + 1 - S0 = _; omega
  have eT : hT (sN h kd n n.toNat) - T0 = (hT h - T0) + n.toNat := by show hT h + n.toNat - T0 = _; omega
  rw [eS, eT] at g
  have ead : j_rv G (hS h) = .ref H.size := by
    rw [j_rd1 G (by have := ok.2.2.2.1; omega), j_ad_new ok.2.2.2.1, hh.1]
  obtain ⟨c1, c2, c3, c4, c5, c6, c7, c8, c9, c10, c11⟩ := C
  subst hty
  have rn : j32 n := ⟨by omega, by omega⟩
  have hb : n.toNat * componentBytes (newarray.typeOf at') ≤ 536870912 := by
    have : componentBytes (newarray.typeOf at') ≤ 8 := by cases at' <;> decide
    have h9 : n.toNat ≤ 1000000 := by omega
    have := Nat.mul_le_mul h9 this
    omega
  refine va_newaK c1 c2 (c8 _ hw) rfl hd rfl (by rw [j_0, j_lt rn j_r0]; omega) (j_cl rn) hb (by omega) (by omega) rfl fun H1 cA e1 z1 o1 hAr hNm => ?_
  have hcA : cA = G.2.2.2.1 (kd - 10) := by
    have key : ∀ q t, (jty G)[q]? = some (G.2.2.2.1 q, t) → newarray.typeOf at' = t → (∀ C, t ≠ .object C) → cA = G.2.2.2.1 q := by
      intro q t ht htt hno
      have h8 := (c11.1.2 _ _ ht).2
      have h7 : s.vm.findClass ("[" ++ t.toString) = some (G.2.2.2.1 q) := by
        cases t with
        | object C => exact absurd rfl (hno C)
        | _ => exact h8
      rw [← htt, hNm] at h7
      exact Option.some.inj h7
    rcases hkd with ⟨rfl, e⟩ | ⟨rfl, e⟩ | ⟨rfl, e⟩ | ⟨rfl, e⟩
    · exact key 0 _ rfl e (fun _ q => by cases q)
    · exact key 1 _ rfl e (fun _ q => by cases q)
    · exact key 2 _ rfl e (fun _ q => by cases q)
    · exact key 3 _ rfl e (fun _ q => by cases q)
  have g2 := g H1 (hh.new ok z1 o1 (fun r' _ q => absurd q (by omega)) (fun _ _ => ?_)) (va_S_new hS9 z1 o1)
  · have g3 : W p l e R s m args below meth c H1 locs _ _ _ (F0 m (pc + 2) lsl (j_rv G (hS h) :: st.map (j_tr G))) := g2
    rw [ead] at g3
    exact g3
  · rw [e1, hcA]
    congr 2
    funext _
    rcases hkd with ⟨rfl, e⟩ | ⟨rfl, e⟩ | ⟨rfl, e⟩ | ⟨rfl, e⟩ <;> (rw [e]; rfl)
/-- a new array of references -/
theorem wp_anewa {n : Int} {idx kd : Nat} {C9 : String} (hkd : kd = 14 ∧ C9 = RX4 ∨ kd = 15 ∧ C9 = RX6) (hl : Cond.classLink y.1.cls idx C9 ∈ jW) (hd : decode y.2.1 pc = .ok (.anewarray idx, 3)) (h0 : 0 ≤ n ∧ n ≤ 1000000)
    (k : jWp d y (pc + 3) ls (jR (hS h) :: st) (sN h kd n n.toNat) Q) : jWp d y pc ls (jI n :: st) h Q := by
  intro ok h2 h3
  obtain ⟨oo, h', hq, ho, hrg, m1, m2, K⟩ := k (ok.sN ⟨by omega, by omega⟩) h2 (j_st1 (v := jR _) (j_s1 h3) trivial)
  have m1' : hS h + 1 ≤ hS h' := m1
  have m2' : hT h + n.toNat ≤ hT h' := m2
  refine ⟨oo, h', hq, ho, hrg, by omega, by omega, fun p l e R s m args below meth c G S0 T0 C f1 f2 f3 f4 f5 f6 H locs lsl hle hh hS9 => ?_⟩
  have g := fun (H1 : Heap) => K p l e R s m args below meth c G S0 T0 C f1 f2 (show S0 ≤ hS h + 1 by omega) (show T0 ≤ hT h + n.toNat by omega) f5 f6 H1 locs lsl hle
  have eS : hS (sN h kd n n.toNat) - S0 = (hS h - S0) + 1 := by show hS h + 1 - S0 = _; omega
  have eT : hT (sN h kd n n.toNat) - T0 = (hT h - T0) + n.toNat := by show hT h + n.toNat - T0 = _; omega
  rw [eS, eT] at g
  have ead : j_rv G (hS h) = .ref H.size := by
    rw [j_rd1 G (by have := ok.2.2.2.1; omega), j_ad_new ok.2.2.2.1, hh.1]
  obtain ⟨c1, c2, c3, c4, c5, c6, c7, c8, c9, c10, c11⟩ := C
  have rn : j32 n := ⟨by omega, by omega⟩
  have hao : va_AO C9 s := by
    rcases hkd with ⟨-, e⟩ | ⟨-, e⟩ <;> rw [e]
    · exact c11.2.2.2.1.1
    · exact c11.2.2.2.1.2.1
  have eN := j_cl rn
  refine W.anew c1 c2 c6 (c8 _ hl) (va_AO.use hao) rfl hd rfl (by rw [j_0, j_lt rn j_r0]; omega) (by rw [eN]; omega) (by omega) (by rw [eN]; omega) fun cA kA comp f1 f2 f3 f4 => ?_
  rw [eN]
  generalize hH1 : H.push ({ cls := cA, slots := Array.replicate n.toNat .null, vm := .none } : Cell) = H1
  have z1 : H1.size = H.size + 1 := by rw [← hH1, Array.size_push]
  have e1 : H1[H.size]? = some (arrV cA n.toNat (fun _ => .null)) := by rw [← hH1, Array.getElem?_push_size, ← arrV_new]
  have o1 : ∀ q, q < H.size → H1[q]? = H[q]? := fun q hq => by rw [← hH1, Array.getElem?_push, if_neg (Nat.ne_of_lt hq)]
  have hcA : cA = G.2.2.2.1 (kd - 10) := by
    have key : ∀ q, (jty G)[q]? = some (G.2.2.2.1 q, .object C9) → cA = G.2.2.2.1 q := by
      intro q ht
      obtain ⟨-, k9, comp9, -, -, -, h7⟩ := c11.1.2 _ _ ht
      rw [f1] at h7
      exact Option.some.inj h7
    rcases hkd with ⟨rfl, e⟩ | ⟨rfl, e⟩
    · exact key 4 (by rw [e]; rfl)
    · exact key 5 (by rw [e]; rfl)
  have g2 := g H1 (hh.new ok z1 o1 (fun r' _ q => absurd q (by omega)) (fun _ _ => ?_)) (va_S_new hS9 z1 o1)
  · have g3 : W p l e R s m args below meth c H1 locs _ _ _ (F0 m (pc + 3) lsl (j_rv G (hS h) :: st.map (j_tr G))) := g2
    rw [ead] at g3
    exact g3
  · rw [e1, hcA]
    congr 2
    funext _
    rw [if_pos (by omega)]
/-- the first call of a constructor -/
theorem wp_objInit {idx r : Nat} (hd : decode y.2.1 pc = .ok (.invokespecial idx, 3)) (hl : Cond.methodLink y.1.cls idx Lib.objectInit ∈ jW) (hr : r ≠ 0) (hs : (st.map j_cat).sum ≤ 20) (k : jWp (d + 1) y (pc + 3) ls st h Q) : jWp (d + 1) y pc ls (jR r :: st) h Q := by
  have hw1 : Cond.instanceMethod Lib.objectInit ∈ jW := by decide +kernel
  have hw2 : Cond.code Lib.objectInit ⟨#[0xb1]⟩ 1 none ∈ jW := by decide +kernel
  intro ok h2 h3
  obtain ⟨oo, h', hq, ho, hrg, m1, m2, K⟩ := k ok h2 (j_s1 h3)
  refine ⟨oo, h', hq, ho, hrg, m1, m2, fun p l e R s m args below meth c G S0 T0 C f1 f2 f3 f4 f5 f6 H locs lsl hle hh hS9 => ?_⟩
  have g := K p l e R s m args below meth c G S0 T0 C f1 f2 f3 f4 f5 f6 H locs lsl hle hh hS9
  obtain ⟨c1, c2, c3, c4, c5, c6, c7, c8, c9, c10, c11⟩ := C
  show W p l e R s m args below meth c H locs _ _ _ (F0 m pc lsl (j_rv G r :: st.map (j_tr G)))
  rw [j_rd1 G hr]
  have hcat : ((st.map (j_tr G)).map fun v => v.category).sum = (st.map j_cat).sum := by
    rw [List.map_map]
    congr 1
    exact List.map_congr_left (fun v _ => j_cat_tr G v)
  refine W.objInit c1 c2 c6 (c8 _ hl) (c8 _ hw1) (c8 _ hw2) rfl (by rw [c3]; exact hle.1) rfl hd (by omega) ?_ (W.eq (g2 := F0 m (pc + 3) lsl (st.map (j_tr G))) rfl g)
  show 2 * 0 + _ + 12 ≤ _
  rw [hcat]
  omega
end HP
