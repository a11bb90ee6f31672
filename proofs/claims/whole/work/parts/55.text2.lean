/-! THE READER OF TEXTS: values -/
def keyB (v : List Int) (f : Int) : Bool := decide (lAt v ((v.length : Int) - 1) - 48 = if digB v f ((v.length : Int) - 1 - f) = true then ckOf (seg v f.toNat ((v.length : Int) - 1 - f).toNat) else -1)
def dtB (v : List Int) (f clk : Int) : Bool := dateB (yearV (twoAt v f) clk) (twoAt v (f + 2)) (twoAt v (f + 4))
def tiB (v : List Int) (f : Int) : Bool := timeB (twoAt v f) (twoAt v (f + 2))
def jpV (v : List Int) (part f b p clk : Int) : Option (Int × Int) :=
  if part / 1000 = 3 then (if keyB v f = true then none else some (5, p - 1))
  else if part / 1000 = 4 then (if dtB v f clk = true then none else some (6, b))
  else if part / 1000 = 5 then (if tiB v f = true then none else some (6, b))
  else none
def finV (t : List Int) (br : Bool) (a dg : Int) (v : List Int) (p : Int) : List Int × Int × Option (Int × Int) :=
  (v, p, if ((!br && fixV a dg) || ovB t br p) = true then none else some (3, p))
/-- an element's value: parts left, the next one, the value so far, the place -/
def rvF (t : List Int) (br : Bool) (clk a dg : Int) : Nat → Nat → List Int → Int → List Int × Int × Option (Int × Int)
  | 0, _, v, p => finV t br a dg v p
  | f + 1, j, v, p =>
    if partV (lineV a dg) j = 0 ∨ (2 ≤ partV (lineV a dg) j % 10 ∧ ovB t br p = true) then finV t br a dg v p
    else match (rpF t br (partV (lineV a dg) j) (mostV (partV (lineV a dg) j)).toNat 0 v p).2.2 with
      | some x => ((rpF t br (partV (lineV a dg) j) (mostV (partV (lineV a dg) j)).toNat 0 v p).1, (rpF t br (partV (lineV a dg) j) (mostV (partV (lineV a dg) j)).toNat 0 v p).2.1, some x)
      | none => match jpV (rpF t br (partV (lineV a dg) j) (mostV (partV (lineV a dg) j)).toNat 0 v p).1 (partV (lineV a dg) j) v.length p (rpF t br (partV (lineV a dg) j) (mostV (partV (lineV a dg) j)).toNat 0 v p).2.1 clk with
        | some x => ((rpF t br (partV (lineV a dg) j) (mostV (partV (lineV a dg) j)).toNat 0 v p).1, (rpF t br (partV (lineV a dg) j) (mostV (partV (lineV a dg) j)).toNat 0 v p).2.1, some x)
        | none => rvF t br clk a dg f (j + 1) (rpF t br (partV (lineV a dg) j) (mostV (partV (lineV a dg) j)).toNat 0 v p).1 (rpF t br (partV (lineV a dg) j) (mostV (partV (lineV a dg) j)).toNat 0 v p).2.1
theorem rpF_rg (t : List Int) (br : Bool) (part : Int) : ∀ (f n : Nat) (v : List Int) (p : Int), (rpF t br part f n v p).1.length ≤ v.length + f ∧ p ≤ (rpF t br part f n v p).2.1 ∧ (rpF t br part f n v p).2.1 ≤ p + 2 * f
  | 0, n, v, p => by simp [rpF]
  | f + 1, n, v, p => by
    unfold rpF
    by_cases z : ovB t br p = true
    · rw [if_pos z]
      by_cases w : 0 < n ∧ part % 2 ≠ 0
      · rw [if_pos w]
        exact ⟨by show v.length ≤ _; omega, Int.le_refl _, by show p ≤ _; omega⟩
      · rw [if_neg w]
        exact ⟨by show v.length ≤ _; omega, Int.le_refl _, by show p ≤ _; omega⟩
    · rw [if_neg z]
      by_cases y : fitB (if esB t br p = true then 40 else lAt t p) (part / 1000) = true
      · rw [if_pos y]
        have this := rpF_rg t br part f (n + 1) (v ++ [if esB t br p = true then 40 else lAt t p]) (p + (if esB t br p = true then 2 else 1))
        have e : (if esB t br p = true then (2 : Int) else 1) = 1 ∨ (if esB t br p = true then (2 : Int) else 1) = 2 := by split <;> omega
        simp only [List.length_append, List.length_singleton] at this
        generalize (if esB t br p = true then (2 : Int) else 1) = w at *
        omega
      · rw [if_neg y]
        exact ⟨by show v.length ≤ _; omega, Int.le_refl _, by show p ≤ _; omega⟩
theorem sumM4 : ∀ n : Nat, n < 65 → sumM (n : Int) 4 ≤ 90 := by decide +kernel
theorem sumM_mono (ln : Int) : ∀ i k : Nat, sumM ln i ≤ sumM ln (i + k)
  | i, 0 => Int.le_refl _
  | i, k + 1 => by
    have := sumM_mono ln i k
    have m := mostV_rg (p := partV ln (i + k : Nat))
    show _ ≤ sumM ln (i + k) + mostV (partV ln (i + k : Nat))
    omega
section X10
variable {d : Nat} {h : jH} {Q : jO → jH → Prop} {T q cap r : Nat} {br : Bool} {clk p : Int} {t v : List Int}
theorem s9_isKey {f : Int} (hf : 0 ≤ f ∧ f ≤ 100) (vb : ∀ x ∈ v, 0 ≤ x ∧ x < 256) (V : isRow h r 90 v) (k : Q (.inl (some (jI (b2i (keyB v f))))) h) : jCall (d + 2) mX9_isKey [jR T, jR r, jI f] h Q := by
  have vl := V.2.2.2.2.2.1
  have lb : -1 ≤ lAt v ((v.length : Int) - 1) ∧ lAt v ((v.length : Int) - 1) < 256 := by
    have := lAt_all (a := -1) (b := 255) (fun x hx => by have := vb x hx; omega) (by decide) (by decide) (l := v) ((v.length : Int) - 1)
    omega
  unfold keyB at k
  refine bX9_isKey (fun _ _ => ⟨V.1, s7_count V ⟨_, rfl, ⟨by omega, by omega⟩, V.1, s7_at V ⟨_, rfl, ⟨by omega, by omega⟩, ⟨by omega, by omega⟩, V.1, s7_checkDigit (by omega) (by omega) V ⟨_, rfl, fun z => ?_, fun z => ?_⟩⟩⟩⟩)
  · rw [decide_eq_false z] at k; exact k
  · rw [decide_eq_true z] at k; exact k
theorem s9_isDate {f : Int} (hf : 0 ≤ f ∧ f ≤ 100) (hclk : 1950 ≤ clk ∧ clk ≤ 2200) (H : isTR h T q br clk p) (V : isRow h r 90 v) (k : Q (.inl (some (jI (b2i (dtB v f clk))))) h) : jCall (d + 2) mX9_isDate [jR T, jR r, jI f] h Q := by
  have t1 := twoAt_rg (s := v) (f := f)
  refine bX9_isDate (fun _ _ => ⟨V.1, s7_twoDigits (by omega) V ⟨_, rfl, H.1, fun _ => ?_⟩⟩)
  rw [H.2.2.2.2.2.1]
  refine s3_yearMeant (by omega) (by omega) (by omega) (by omega) ⟨_, rfl, ⟨by omega, by omega⟩, V.1, s7_twoDigits (by omega) V ⟨_, rfl, ⟨by omega, by omega⟩, V.1, s7_twoDigits (by omega) V ⟨_, rfl, s3_isDate (by unfold yearV; omega) ⟨_, rfl, b2i_rg _, k⟩⟩⟩⟩
theorem s9_isTime {f : Int} (hf : 0 ≤ f ∧ f ≤ 100) (V : isRow h r 90 v) (k : Q (.inl (some (jI (b2i (tiB v f))))) h) : jCall (d + 2) mX9_isTime [jR T, jR r, jI f] h Q :=
  bX9_isTime (fun _ _ => ⟨V.1, s7_twoDigits (by omega) V ⟨_, rfl, ⟨by omega, by omega⟩, V.1, s7_twoDigits (by omega) V ⟨_, rfl, s3_isTime ⟨_, rfl, b2i_rg _, k⟩⟩⟩⟩)
theorem s9_judgePart {part f b : Int} (hpart : 0 ≤ part) (hf : 0 ≤ f ∧ f ≤ 100) (hp : 0 ≤ p ∧ p ≤ 100000) (hclk : 1950 ≤ clk ∧ clk ≤ 2200) (vb : ∀ x ∈ v, 0 ≤ x ∧ x < 256) (H : isTR h T q br clk p) (V : isRow h r 90 v)
    (k : ∀ h', jFP (fun o => o = T) h h' → isTR h' T q br clk p → fl9 h h' T (jpV v part f b p clk) → Q (.inl (some (jI (b2i (jpV v part f b p clk).isNone)))) h') : jCall (d + 3) mX9_judgePart [jR T, jR r, jI part, jI f, jI b] h Q := by
  obtain ⟨q1, q2, q3, q4, q5, q6, q7⟩ := id H
  have yes : jpV v part f b p clk = none → Q (.inl (some (jI 1))) h := fun e => by
    have := k h .rfl H (by rw [e]; exact ⟨rfl, rfl⟩)
    rw [e] at this
    exact this
  have no : ∀ a c : Int, jpV v part f b p clk = some (a, c) → jCall (d + 2) mX9_refuse [jR T, jI a, jI c] h (fun o h49 => ∃ v49, o = .inl (some (jI v49)) ∧ ((v49 = 0 → Q (.inl (some (jI 0))) h49) ∧ (¬ (v49 = 0) → Q (.inl (some (jI 1))) h49))) := fun a c e => by
    have := k _ ((jFP_I h 606 T a (.refl _)).trans (jFP_I _ 607 T c (.refl _))) (H.setF a c) (by
      rw [e]
      refine ⟨?_, ?_⟩
      · rw [hI_sI, if_neg (by omega), hI_sI, if_pos ⟨.refl _, .refl _⟩]
      · rw [hI_sI, if_pos ⟨.refl _, .refl _⟩])
    rw [e] at this
    exact s9_refuse q1 ⟨_, rfl, fun _ => this, fun z => absurd rfl z⟩
  unfold jpV at yes no
  refine bX9_judgePart (fun _ _ _ _ => s8_sort hpart ⟨_, rfl, fun z => ⟨q1, s9_isKey hf vb V ⟨_, rfl, fun y => yes ?_, fun y => ⟨q1, fun _ => ?_⟩⟩⟩, fun z => ⟨q1, s9_isDate hf hclk H V ⟨_, rfl, fun y => yes ?_, fun y => ⟨q1, no _ _ ?_⟩⟩⟩, fun z => ⟨q1, s9_isTime hf V ⟨_, rfl, fun y => yes ?_, fun y => ⟨q1, no _ _ ?_⟩⟩⟩, fun z1 z2 z3 => yes ?_⟩)
  · rw [if_pos z, if_pos ((b2i_ne _).mp y)]
  · rw [q7]
    exact ⟨⟨by omega, by omega⟩, no _ _ (by rw [if_pos z, if_neg (by rw [(b2i_eq _).mp y]; decide)])⟩
  · rw [if_neg (by omega), if_pos z, if_pos ((b2i_ne _).mp y)]
  · rw [if_neg (by omega), if_pos z, if_neg (by rw [(b2i_eq _).mp y]; decide)]
  · rw [if_neg (by omega), if_neg (by omega), if_pos z, if_pos ((b2i_ne _).mp y)]
  · rw [if_neg (by omega), if_neg (by omega), if_pos z, if_neg (by rw [(b2i_eq _).mp y]; decide)]
  · rw [if_neg z1, if_neg z2, if_neg z3]
/-- the end of a value -/
theorem s9_fin {e : Nat} {x : jE} (heT : e + 3 ≤ T ∨ T + 1 ≤ e) (hp : 0 ≤ p ∧ p ≤ 100000) (H : isTR h T q br clk p) (R : isRow h q cap t) (E : isEl h e x)
    (k : ∀ h', jFP (fun o => o = T) h h' → isTR h' T q br clk p → fl9 h h' T (finV t br x.1 x.2.1 v p).2.2 → Q (.inl (some (jI (b2i (finV t br x.1 x.2.1 v p).2.2.isNone)))) h') :
    hK h T = 7 ∧ (j32 (hI h 603 T) → (((hI h 603 T) ≠ 0 → jWp (d + 3) mX9_readValue 107 [(0, jR T)] [] h Q) ∧ ((hI h 603 T) = 0 → hK h e = 3 ∧ jCall (d + 2) mX4_isFixed [jR e] h (fun o h97 => ∃ v97, o = .inl (some (jI v97)) ∧ ((v97 = 0 → jWp (d + 3) mX9_readValue 107 [(0, jR T)] [] h97 Q) ∧ (¬ (v97 = 0) → jWp (d + 3) mX9_readValue 108 [(0, jR T)] [jI 1] h97 Q)))))) := by
  obtain ⟨q1, q2, q3, q4, q5, q6, q7⟩ := id H
  unfold finV at k
  have yes : ((!br && fixV x.1 x.2.1) || ovB t br p) = true → jWp (d + 3) mX9_readValue 132 [] [] h Q := fun z => by
    simp only [if_pos z] at k
    exact bX9_readValue_132 (fun _ => bX9_readValue_137 (fun _ => ⟨by decide, k h .rfl H ⟨rfl, rfl⟩⟩))
  have a107 : (!br && fixV x.1 x.2.1) = false → jWp (d + 3) mX9_readValue 107 [(0, jR T)] [] h Q := fun z => by
    refine bX9_readValue_107 (fun _ => bX9_readValue_108 (fun _ => ⟨fun y => absurd rfl y, fun _ => ⟨q1, s9_over H R ⟨_, rfl, fun y => yes (by rw [(b2i_ne _).mp y, Bool.or_true]), fun y => ⟨q1, fun _ => ?_⟩⟩⟩⟩))
    rw [q7]
    have nn : ¬ ((!br && fixV x.1 x.2.1) || ovB t br p) = true := by rw [z, (b2i_eq _).mp y]; decide
    simp only [if_neg nn] at k
    refine s9_refuse q1 ⟨_, rfl, fun _ => bX9_readValue_137 (fun _ => ⟨by decide, k _ ((jFP_I h 606 T 3 (.refl _)).trans (jFP_I _ 607 T p (.refl _))) (H.setF 3 p) ⟨?_, ?_⟩⟩), fun w => absurd rfl w⟩
    · rw [hI_sI, if_neg (by omega), hI_sI, if_pos ⟨.refl _, .refl _⟩]
    · rw [hI_sI, if_pos ⟨.refl _, .refl _⟩]
  refine ⟨q1, fun _ => ?_⟩
  rw [q5]
  refine ⟨fun z => a107 (by rw [(b2i_ne _).mp z]; rfl), fun z => ⟨E.1, s4_isFixed E ⟨_, rfl, fun y => a107 (by rw [(b2i_eq _).mp y, Bool.and_false]), fun y => bX9_readValue_108 (fun _ => ⟨fun _ => yes (by rw [(b2i_eq _).mp z, (b2i_ne _).mp y]; rfl), fun w => absurd w (by decide)⟩)⟩⟩⟩
theorem isEl.upd {h h1 : jH} {S : Nat → Prop} {e : Nat} {a dg : Int} {v v1 : List Int} (p : jFP S h h1) (he : ¬ S e) (E : isEl h e (a, dg, v, clk)) (V : isRow h1 (e + 1) 90 v1) : isEl h1 e (a, dg, v1, clk) := by
  obtain ⟨p1, p2, p3, p4, p5, p6, p7⟩ := p
  obtain ⟨q1, q2, q3, q4, q5, q6, q7, q8, q9⟩ := E
  have w := (p7 e he).1
  exact ⟨by rw [p3]; exact q1, by rw [p1]; exact q2, V, by rw [w]; exact q4, by rw [w]; exact q5, by rw [w]; exact q6, by rw [w]; exact q7, by rw [w]; exact q8, q9⟩
theorem rpF_mem {t : List Int} {br : Bool} {part : Int} (htb : ∀ x ∈ t, 0 ≤ x ∧ x < 256) : ∀ (f n : Nat) (v : List Int) (p : Int), 0 ≤ p → (∀ x ∈ v, 0 ≤ x ∧ x < 256) → ∀ x ∈ (rpF t br part f n v p).1, 0 ≤ x ∧ x < 256
  | 0, n, v, p, _, hv => hv
  | f + 1, n, v, p, hp, hv => by
    unfold rpF
    by_cases z : ovB t br p = true
    · rw [if_pos z]
      split <;> exact hv
    · rw [if_neg z]
      by_cases y : fitB (if esB t br p = true then 40 else lAt t p) (part / 1000) = true
      · rw [if_pos y]
        refine rpF_mem htb f (n + 1) _ _ (by split <;> omega) (fun x hx => ?_)
        rcases List.mem_append.mp hx with e | e
        · exact hv x e
        · rw [List.mem_singleton.mp e]
          split
          · omega
          · have : p < t.length := by
              unfold ovB at z
              have := of_decide_eq_false (show decide (t.length ≤ p ∨ lAt t p = _) = false by simpa using z)
              omega
            unfold lAt
            rw [if_pos ⟨hp, this⟩, List.getD_eq_getElem?_getD, List.getElem?_eq_getElem (by omega)]
            exact htb _ (List.getElem_mem _)
      · rw [if_neg y]
        exact hv
end X10
