/-! WHAT IS READ IS WELL FORMED -/
theorem tabR1 : ∀ n : Nat, n < 65 → ∀ j : Nat, j < 4 → partV (n : Int) (j : Int) = 0 ∨ (1 ≤ mostV (partV (n : Int) (j : Int)) ∧ 1 ≤ psV (n : Int) (j : Int) ∧ psV (n : Int) (j : Int) ≤ 5) := by decide +kernel
theorem tabR2 : ∀ n : Nat, n < 65 → ∀ j : Nat, j < 4 → partV (n : Int) (j : Int) % 2 = 0 ∨ partV (n : Int) ((j + 1 : Nat) : Int) = 0 := by decide +kernel
theorem tabR3 : ∀ n : Nat, n < 65 → ∀ j : Nat, j < 4 → psV (n : Int) (j : Int) ≠ 3 ∨ (partV (n : Int) (j : Int) % 2 = 0 ∧ 2 ≤ mostV (partV (n : Int) (j : Int)) ∧ mostV (partV (n : Int) (j : Int)) ≤ 18) := by decide +kernel
theorem tabR4 : ∀ n : Nat, n < 65 → ∀ j : Nat, j < 4 → psV (n : Int) (j : Int) ≠ 4 ∨ (partV (n : Int) (j : Int) % 2 = 0 ∧ mostV (partV (n : Int) (j : Int)) = 6) := by decide +kernel
theorem tabR5 : ∀ n : Nat, n < 65 → ∀ j : Nat, j < 4 → psV (n : Int) (j : Int) ≠ 5 ∨ (partV (n : Int) (j : Int) % 2 = 0 ∧ mostV (partV (n : Int) (j : Int)) = 4) := by decide +kernel
theorem tabR {ln : Int} {j : Nat} (h : partV ln j ≠ 0) (h1 : ln < 65) : 1 ≤ mostV (partV ln j) ∧ 1 ≤ psV ln j ∧ psV ln j ≤ 5 ∧ (partV ln j % 2 ≠ 0 → partV ln (j + 1 : Nat) = 0) ∧ (psV ln j = 3 → partV ln j % 2 = 0 ∧ 2 ≤ mostV (partV ln j) ∧ mostV (partV ln j) ≤ 18) ∧ (psV ln j = 4 → partV ln j % 2 = 0 ∧ mostV (partV ln j) = 6) ∧ (psV ln j = 5 → partV ln j % 2 = 0 ∧ mostV (partV ln j) = 4) := by
  obtain ⟨h0, h2, h3⟩ := partV_ln h
  have e : ((ln.toNat : Nat) : Int) = ln := by omega
  have t1 := tabR1 ln.toNat (by omega) j (by omega)
  have t2 := tabR2 ln.toNat (by omega) j (by omega)
  have t3 := tabR3 ln.toNat (by omega) j (by omega)
  have t4 := tabR4 ln.toNat (by omega) j (by omega)
  have t5 := tabR5 ln.toNat (by omega) j (by omega)
  rw [e] at t1 t2 t3 t4 t5
  rcases t1 with t1 | t1
  · exact absurd t1 h
  · refine ⟨t1.1, t1.2.1, t1.2.2, fun z => t2.resolve_left z, fun z => t3.resolve_left (fun n => n z), fun z => t4.resolve_left (fun n => n z), fun z => t5.resolve_left (fun n => n z)⟩
theorem mkB_r2 {b : Int} (h : mkB b = true) : 33 ≤ b ∧ b ≤ 95 := by
  unfold mkB at h
  obtain ⟨c, hc, e⟩ := List.any_eq_true.mp h
  have e := of_decide_eq_true e
  subst e
  have : ∀ x ∈ jMKI, 33 ≤ x ∧ x ≤ 95 := by decide
  exact this c hc
theorem fitB_rg {c s : Int} (h : fitB c s = true) : 32 ≤ c ∧ c < 128 ∧ (s ≠ 2 → isD c = true) := by
  unfold fitB at h
  rw [Bool.or_eq_true, Bool.and_eq_true] at h
  rcases h with h | ⟨h1, h2⟩
  · have := isD_rg h
    exact ⟨by omega, by omega, fun _ => h⟩
  · have e := of_decide_eq_true h1
    unfold letB at h2
    rw [Bool.or_eq_true, Bool.or_eq_true] at h2
    rcases h2 with (h2 | h2) | h2
    · have := of_decide_eq_true h2; exact ⟨by omega, by omega, fun n => absurd e n⟩
    · have := of_decide_eq_true h2; exact ⟨by omega, by omega, fun n => absurd e n⟩
    · have := mkB_r2 h2; exact ⟨by omega, by omega, fun n => absurd e n⟩
/-- what a part gives when it has no fault -/
theorem rpF_inv (t : List Int) (br : Bool) (part : Int) : ∀ (f n : Nat) (v : List Int) (p : Int), (rpF t br part f n v p).2.2 = none → ∃ w, (rpF t br part f n v p).1 = v ++ w ∧ w.length ≤ f ∧ (∀ c ∈ w, fitB c (part / 1000) = true) ∧ (part % 2 = 0 → w.length = f)
  | 0, n, v, p => fun _ => ⟨[], by simp [rpF], by simp, by simp, by simp⟩
  | f + 1, n, v, p => fun h => by
    unfold rpF at h ⊢
    by_cases z : ovB t br p = true
    · rw [if_pos z] at h ⊢
      by_cases w : 0 < n ∧ part % 2 ≠ 0
      · rw [if_pos w]
        exact ⟨[], by simp, by simp, by simp, fun e => absurd e w.2⟩
      · rw [if_neg w] at h; cases h
    · rw [if_neg z] at h ⊢
      by_cases y : fitB (if esB t br p = true then 40 else lAt t p) (part / 1000) = true
      · rw [if_pos y] at h ⊢
        obtain ⟨w, h1, h2, h3, h4⟩ := rpF_inv t br part f (n + 1) _ _ h
        refine ⟨(if esB t br p = true then 40 else lAt t p) :: w, by rw [h1]; simp, by simp; omega, fun c hc => ?_, fun e => by simp [h4 e]⟩
        rcases List.mem_cons.mp hc with e | e
        · rw [e]; exact y
        · exact h3 c e
      · rw [if_neg y] at h; cases h
/-- a value whose parts ahead of j are read -/
def pvI (ln : Int) (j : Nat) (v : List Int) : Prop := (∀ c ∈ v, 32 ≤ c ∧ c < 128) ∧ (v.length : Int) ≤ sumM ln j ∧ (partV ln j ≠ 0 → (v.length : Int) = sumM ln j) ∧ (∀ i : Nat, i < j → psV ln i ≠ 2 → ∀ l : Nat, sumM ln i ≤ l → l < v.length → (l : Int) < sumM ln (i + 1) → isD (v.getD l 0) = true) ∧ ∀ i : Nat, i < j → psV ln i = 4 → sumM ln i < v.length → sumM ln i + 6 ≤ v.length
theorem pvI_zero (ln : Int) : pvI ln 0 [] := ⟨by simp, by simp [sumM], by simp [sumM], fun i hi => absurd hi (by omega), fun i hi => absurd hi (by omega)⟩
theorem pvI_step {ln : Int} (h1 : ln < 65) {j : Nat} {v w : List Int} (H : pvI ln j v) (hp : partV ln j ≠ 0) (wl : (w.length : Int) ≤ mostV (partV ln j)) (wf : ∀ c ∈ w, fitB c (partV ln j / 1000) = true) (we : partV ln j % 2 = 0 → (w.length : Int) = mostV (partV ln j)) : pvI ln (j + 1) (v ++ w) := by
  obtain ⟨q1, q2, q3, q4, q5⟩ := H
  have t := tabR hp h1
  have el := q3 hp
  have sn : sumM ln (j + 1) = sumM ln j + mostV (partV ln j) := rfl
  refine ⟨fun c hc => ?_, by rw [List.length_append]; omega, fun hn => ?_, fun i hi hs l l0 l1 l2 => ?_, fun i hi hs hl => ?_⟩
  · rcases List.mem_append.mp hc with e | e
    · exact q1 c e
    · have := fitB_rg (wf c e); exact ⟨this.1, this.2.1⟩
  · have ev : partV ln j % 2 = 0 := by
      by_cases z : partV ln j % 2 = 0
      · exact z
      · exact absurd (t.2.2.2.1 z) hn
    rw [List.length_append]
    have := we ev
    omega
  · by_cases e : i = j
    · subst e
      have hw : l - v.length < w.length := by rw [List.length_append] at l1; omega
      have hm : w.getD (l - v.length) 0 ∈ w := by
        rw [List.getD_eq_getElem?_getD, List.getElem?_eq_getElem hw]
        exact List.getElem_mem _
      rw [app_getD _ _ _ (by omega)]
      exact (fitB_rg (wf _ hm)).2.2 hs
    · have mo := sumM_mono ln (i + 1) (j - (i + 1))
      rw [show i + 1 + (j - (i + 1)) = j by omega] at mo
      rw [app_getL _ _ _ (by omega)]
      exact q4 i (by omega) hs l l0 (by omega) l2
  · rw [List.length_append] at hl ⊢
    by_cases e : i = j
    · subst e
      have e4 := t.2.2.2.2.2.1 hs
      have := we e4.1
      omega
    · have mo := sumM_mono ln (i + 1) (j - (i + 1))
      rw [show i + 1 + (j - (i + 1)) = j by omega] at mo
      have sn2 : sumM ln (i + 1) = sumM ln i + mostV (partV ln i) := rfl
      have pi : partV ln i ≠ 0 := fun z => by unfold psV at hs; rw [z] at hs; omega
      have e4 := (tabR pi h1).2.2.2.2.2.1 hs
      omega
theorem rvF_inv (t : List Int) (br : Bool) (clk a dg : Int) : ∀ (f j : Nat) (v : List Int) (p : Int), (rvF t br clk a dg f j v p).2.2 = none → pvI (lineV a dg) j v → ∃ J, pvI (lineV a dg) J (rvF t br clk a dg f j v p).1
  | 0, j, v, p => fun _ H => ⟨j, by simpa [rvF, finV] using H⟩
  | f + 1, j, v, p => fun h H => by
    have lr := lineV_rg a dg
    unfold rvF at h ⊢
    by_cases z : partV (lineV a dg) j = 0 ∨ (2 ≤ partV (lineV a dg) j % 10 ∧ ovB t br p = true)
    · rw [if_pos z]
      exact ⟨j, H⟩
    · rw [if_neg z] at h ⊢
      have ri := rpF_inv t br (partV (lineV a dg) j) (mostV (partV (lineV a dg) j)).toNat 0 v p
      have mr := mostV_rg (p := partV (lineV a dg) j)
      generalize rpF t br (partV (lineV a dg) j) (mostV (partV (lineV a dg) j)).toNat 0 v p = rp at *
      cases hf : rp.2.2 with
      | some x => rw [hf] at h; cases h
      | none =>
        rw [hf] at h
        obtain ⟨w, w1, w2, w3, w4⟩ := ri hf
        cases hj : jpV rp.1 (partV (lineV a dg) j) v.length p rp.2.1 clk with
        | some x => simp only [hj] at h; cases h
        | none =>
          simp only [hj] at h ⊢
          refine rvF_inv t br clk a dg f (j + 1) rp.1 rp.2.1 h ?_
          rw [w1]
          exact pvI_step lr.2 H (fun q => z (Or.inl q)) (by omega) w3 (fun e => by have := w4 e; omega)
theorem okE_of {a dg clk : Int} {v : List Int} {J : Nat} (hl : lineV a dg ≠ -1) (hc : 1950 ≤ clk ∧ clk ≤ 2200) (H : pvI (lineV a dg) J v) : okE (a, dg, v, clk) := by
  obtain ⟨q1, q2, q3, q4, q5⟩ := H
  have key : ∀ j : Int, pbV (lineV a dg) v.length j ≠ -1 → 0 ≤ j ∧ j.toNat < J ∧ pbV (lineV a dg) v.length j = sumM (lineV a dg) j.toNat ∧ sumM (lineV a dg) j.toNat < v.length := fun j hj => by
    have pr := (pbV_rg (ln := lineV a dg) (len := v.length) (j := j)).2.2 hj
    have e : pbV (lineV a dg) v.length j = sumM (lineV a dg) j.toNat ∧ sumM (lineV a dg) j.toNat < v.length := by
      unfold pbV at hj ⊢
      split
      · rename_i z; rw [if_pos z] at hj; exact absurd rfl hj
      · rename_i z
        rw [if_neg z] at hj
        split
        · rename_i y; exact ⟨rfl, y⟩
        · rename_i y; rw [if_neg y] at hj; exact absurd rfl hj
    refine ⟨pr.2.2.1, ?_, e⟩
    by_cases c : j.toNat < J
    · exact c
    · have mo := sumM_mono (lineV a dg) J (j.toNat - J)
      rw [show J + (j.toNat - J) = j.toNat by omega] at mo
      omega
  refine ⟨hl, q1, fun j hj hs => ?_, fun j hj hs => ?_, hc.1, hc.2⟩
  · obtain ⟨k0, k1, k2, k3⟩ := key j hj
    change pbV (lineV a dg) v.length j ≠ -1 at hj
    change psV (lineV a dg) j ≠ 2 at hs
    show digB v (pbV (lineV a dg) v.length j) (pzV (lineV a dg) v.length j) = true
    unfold pzV
    rw [if_neg hj, k2]
    have s0 := sumM_rg (lineV a dg) j.toNat
    have mr := mostV_rg (p := partV (lineV a dg) j)
    have sn : sumM (lineV a dg) (j.toNat + 1) = sumM (lineV a dg) j.toNat + mostV (partV (lineV a dg) (j.toNat : Int)) := rfl
    rw [show ((j.toNat : Nat) : Int) = j by omega] at sn
    have hs' : psV (lineV a dg) (j.toNat : Int) ≠ 2 := by rw [show ((j.toNat : Nat) : Int) = j by omega]; exact hs
    have eb : sumM (lineV a dg) j.toNat = ((sumM (lineV a dg) j.toNat).toNat : Int) := by omega
    have ez : min (mostV (partV (lineV a dg) j)) (v.length - sumM (lineV a dg) j.toNat) = ((min (mostV (partV (lineV a dg) j)) (v.length - sumM (lineV a dg) j.toNat)).toNat : Int) := by omega
    rw [ez]
    conv => lhs; arg 2; rw [eb]
    rw [digB_iff (by omega)]
    intro i hi
    exact q4 j.toNat k1 hs' _ (by omega) (by omega) (by omega)
  · obtain ⟨k0, k1, k2, k3⟩ := key j hj
    change psV (lineV a dg) j = 4 at hs
    show pbV (lineV a dg) v.length j + 6 ≤ v.length
    rw [k2]
    exact q5 j.toNat k1 (by rw [show ((j.toNat : Nat) : Int) = j by omega]; exact hs) k3
theorem lnA_line {t : List Int} {p dg : Int} (h : lnA t p dg ≠ -1) : dg ≤ 4 ∧ digB t p dg = true ∧ lineV (numOf (seg t p.toNat dg.toNat)) dg ≠ -1 := by
  unfold lnA at h
  split at h
  · exact absurd rfl h
  · split at h
    · rename_i z; exact ⟨by omega, z, h⟩
    · exact absurd rfl h
theorem aiN_line {t : List Int} {p dg np : Int} {n : Nat} {a b c e : Int} (h : aiN t p dg np n = .inr (a, b, c, e)) : lineV a b ≠ -1 ∧ n ≠ 20 := by
  unfold aiN at h
  split at h
  · cases h
  · rename_i z
    split at h
    · cases h
    · rename_i y
      cases h
      exact ⟨(lnA_line z).2.2, y⟩
theorem aiV_line {t : List Int} {br : Bool} {p : Int} {n : Nat} {a b c e : Int} (h : aiV t br p n = .inr (a, b, c, e)) : lineV a b ≠ -1 ∧ n ≠ 20 := by
  unfold aiV at h
  split at h
  · unfold aiB at h
    split at h
    · cases h
    · split at h
      · cases h
      · split at h
        · cases h
        · rename_i x hx
          split at h
          · cases h
          · cases h; exact aiN_line hx
  · unfold aiP at h
    split at h
    · cases h
    · exact aiN_line h
theorem rtF_inv (t : List Int) (br : Bool) {clk : Int} (asks : Bool) (hc : 1950 ≤ clk ∧ clk ≤ 2200) : ∀ (f : Nat) (p : Int) (es : List jE) (ps : List Int), es.length ≤ 20 → (∀ y ∈ es, okE y) → (rtF t br clk asks f p es ps).1.length ≤ 20 ∧ ∀ y ∈ (rtF t br clk asks f p es ps).1, okE y
  | 0, p, es, ps => fun hl h => ⟨hl, h⟩
  | f + 1, p, es, ps => fun hl h => by
    unfold rtF
    cases ha : aiV t br p es.length with
    | inl x => exact ⟨hl, h⟩
    | inr x =>
      obtain ⟨a, dg, pa, p1⟩ := x
      have al := aiV_line ha
      simp only
      cases hr : (rvF t br clk a dg 4 0 [] p1).2.2 with
      | some y => exact ⟨hl, h⟩
      | none =>
        obtain ⟨J, hJ⟩ := rvF_inv t br clk a dg 4 0 [] p1 hr (pvI_zero _)
        have oy := okE_of al.1 hc hJ
        have hl2 : (es ++ [(a, dg, (rvF t br clk a dg 4 0 [] p1).1, clk)]).length ≤ 20 := by rw [List.length_append]; simp; omega
        have h2 : ∀ y ∈ es ++ [(a, dg, (rvF t br clk a dg 4 0 [] p1).1, clk)], okE y := fun y hy => by
          rcases List.mem_append.mp hy with e | e
          · exact h y e
          · rw [List.mem_singleton.mp e]; exact oy
        simp only
        split
        · exact ⟨hl2, h2⟩
        · exact rtF_inv t br asks hc f _ _ _ hl2 h2
