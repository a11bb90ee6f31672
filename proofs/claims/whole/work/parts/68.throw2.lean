/-! THE THROW RULE -/
theorem wp_throw {d : Nat} {y : jM} {pc : Nat} {ls : List (Nat × jV)} {st : List jV} {h : jH} {Q : jO → jH → Prop} {idx is ic : Nat} {cls text : String} {names : List String} (hcls : Bundle.fit cls = true) (hnames : ∀ n ∈ names, Bundle.fit n = true) (hlen : names.length ≤ 2) (hk : Cond.classLink y.1.cls idx cls ∈ jW) (hini : Cond.initialized cls ∈ jW) (htx : ∀ (G : jG) (s : State), jtx G s → ∃ a, vk_R y.1.cls is text a s) (hat : ∀ w ∈ vx_atS y.1.cls ic cls names, w ∈ jW) (hgood : ∀ w ∈ Cond.classLink y.1.cls idx cls :: Cond.initialized cls :: vx_atS y.1.cls ic cls names, vx_ot w = true) (hh0 : y.2.2.2.2 = [])
    (d0 : decode y.2.1 pc = .ok (.new idx, 3)) (d3 : decode y.2.1 (pc + 3) = .ok (.dup, 1)) (d4 : decode y.2.1 (pc + 4) = .ok (.ldc is, 2)) (d6 : decode y.2.1 (pc + 6) = .ok (.invokespecial ic, 3)) (d9 : decode y.2.1 (pc + 9) = .ok (.athrow, 1)) (hst : (st.map j_cat).sum ≤ 8)
    (k : Q (.inr cls) (sN h 16 0 6)) : jWp (d + 6) y pc ls st h Q := by
  intro ok h2 h3
  refine ⟨.inr cls, sN h 16 0 6, k, ok.sN (by decide), trivial, (by show hS h ≤ hS h + 1; omega), (by show hT h ≤ hT h + 6; omega), fun p l e R s m args below meth c G S0 T0 C f1 f2 f3 f4 f5 f6 H locs lsl hle hh hS9 => ?_⟩
  have q5 : hS h + 1 - S0 ≤ R.cells := f5
  have q6 : hT h + 6 - T0 ≤ R.slots := f6
  obtain ⟨c1, c2, c3, c4, c5, c6, c7, c8, c9, c10, c11⟩ := C
  obtain ⟨sa, hsa⟩ := htx G s c11.2.2.1
  have hcat : ((st.map (j_tr G)).map fun v => v.category).sum = (st.map j_cat).sum := by
    rw [List.map_map]
    congr 1
    exact List.map_congr_left (fun v _ => j_cat_tr G v)
  refine jv_throwS c1 c2 c10 c6 hcls hnames (c8 _ hk) (c8 _ hini) hsa (fun w hw => c8 _ (hat w hw)) hgood c11.2.1.2.2.2.1 c11.2.1.2.2.2.2 hS9 (by rw [c3]; exact hle.1) d0 d3 d4 d6 d9 (fun x hx => by rw [c9, hh0] at hx; cases hx) (by omega) (by rw [hcat]; omega) (by omega) (by omega) c5 (fun t _ hz hq => ⟨rfl, hh.new ok hz hq (fun r' z _ _ => ?_) (fun z => ?_), (va_S_new hS9 hz hq).F rfl⟩) hS9.2.2 (by show hS h - S0 + 1 ≤ hS h + 1 - S0; omega) (by show hT h - T0 + 6 ≤ hT h + 6 - T0; omega)
  · omega
  · omega
