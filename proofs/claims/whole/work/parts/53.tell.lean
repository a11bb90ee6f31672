/-! THE READER OF BARS: what the characters tell -/
def bytV (s c : Int) : Int := if 0 ≤ c ∧ c < (if s = 103 then 64 else if s = 104 then 96 else 0) then c + 32 else -1
def othV (s : Int) : Int := if s = 103 then 104 else if s = 104 then 103 else -1
def cgdV (s c : Int) : Int := if c = 101 ∧ s ≠ 103 then 103 else if c = 100 ∧ s ≠ 104 then 104 else if c = 99 ∧ s ≠ 105 then 105 else -1
def shfV (s c nx : Int) : Int := if c = 98 then bytV (othV s) nx else -1
def tlF (cs ps : List Int) (e : Nat) : Nat → Nat → Int → List Int → List Int × Option (Int × Int)
  | 0, _, _, o => (o, none)
  | n + 1, i, s, o =>
    if e ≤ i then (o, none)
    else if lAt cs i = 102 then tlF cs ps e n (i + 1) s (o ++ [29])
    else if s = 105 ∧ lAt cs i < 100 then tlF cs ps e n (i + 1) s (o ++ [48 + lAt cs i / 10, 48 + lAt cs i % 10])
    else if bytV s (lAt cs i) ≠ -1 then tlF cs ps e n (i + 1) s (o ++ [bytV s (lAt cs i)])
    else if shfV s (lAt cs i) (if i + 1 < e then lAt cs (i + 1) else -1) ≠ -1 then tlF cs ps e n (i + 2) s (o ++ [shfV s (lAt cs i) (if i + 1 < e then lAt cs (i + 1) else -1)])
    else if cgdV s (lAt cs i) ≠ -1 then tlF cs ps e n (i + 1) (cgdV s (lAt cs i)) o
    else (o, some (16, lAt ps i))
def tlV (cs ps : List Int) : List Int × Option (Int × Int) := tlF cs ps (cs.length - 2) (cs.length - 2) 2 (lAt cs 0) []
theorem bytV_rg (s c : Int) : -1 ≤ bytV s c ∧ bytV s c < 128 := by
  unfold bytV
  by_cases a : s = 103
  · rw [if_pos a]; split <;> omega
  · rw [if_neg a]
    by_cases b : s = 104
    · rw [if_pos b]; split <;> omega
    · rw [if_neg b]; split <;> omega
section T0
variable {d : Nat} {h : jH} {Q : jO → jH → Prop} {P B q : Nat} {lo wi : Int} {fr : Bool}
theorem s0_byteIn {s c : Int} (k : Q (.inl (some (jI (bytV s c)))) h) : jCall d mX0_byteIn [jI s, jI c] h Q := by
  have k' : ∀ v, v = bytV s c → Q (.inl (some (jI v))) h := fun v e => e ▸ k
  refine bX0_byteIn (fun _ _ rc => ⟨fun z => ⟨fun z2 => ⟨fun z3 => k' _ ?_, fun z3 => ⟨fun z4 => k' _ ?_, fun z4 => by omega⟩⟩, fun z2 => ⟨fun z3 => k' _ ?_, fun z3 => ⟨fun z4 => k' _ ?_, fun z4 => ⟨⟨by omega, by omega⟩, k' _ ?_⟩⟩⟩⟩, fun z => ⟨fun z3 => k' _ ?_, fun z3 => ⟨fun z4 => k' _ ?_, fun z4 => ⟨⟨by omega, by omega⟩, k' _ ?_⟩⟩⟩⟩)
  · unfold bytV; rw [if_neg z, if_neg z2, if_neg (by omega)]
  · unfold bytV; rw [if_neg z, if_neg z2, if_neg (by omega)]
  · unfold bytV; rw [if_neg z, if_pos z2, if_neg (by omega)]
  · unfold bytV; rw [if_neg z, if_pos z2, if_neg (by omega)]
  · unfold bytV; rw [if_neg z, if_pos z2, if_pos (by omega)]
  · unfold bytV; rw [if_pos z, if_neg (by omega)]
  · unfold bytV; rw [if_pos z, if_neg (by omega)]
  · unfold bytV; rw [if_pos z, if_pos (by omega)]
theorem s0_otherSet {s : Int} (k : Q (.inl (some (jI (othV s)))) h) : jCall d mX0_otherSet [jI s] h Q := by
  unfold othV at k
  refine bX0_otherSet (fun _ _ => ⟨fun z => ⟨fun z2 => ?_, fun z2 => ?_⟩, fun z => ?_⟩)
  · rw [if_neg z, if_neg z2] at k; exact k
  · rw [if_neg z, if_pos z2] at k; exact k
  · rw [if_pos z] at k; exact k
theorem s0_changedSet {s c : Int} (k : Q (.inl (some (jI (cgdV s c)))) h) : jCall d mX0_changedSet [jI s, jI c] h Q := by
  have k' : ∀ v, v = cgdV s c → Q (.inl (some (jI v))) h := fun v e => e ▸ k
  refine bX0_changedSet (fun _ _ _ => ⟨fun z => ⟨fun z2 => ⟨fun z3 => ⟨fun _ => k' _ ?_, fun _ => k' _ ?_⟩, fun z3 => ⟨fun y => k' _ ?_, fun y => k' _ ?_⟩⟩, fun z2 => ⟨fun y => k' _ ?_, fun y => k' _ ?_⟩⟩, fun z => ⟨fun y => k' _ ?_, fun y => k' _ ?_⟩⟩)
  · unfold cgdV; rw [if_neg (by omega), if_neg (by omega), if_neg (by omega)]
  · unfold cgdV; rw [if_neg (by omega), if_neg (by omega), if_neg (by omega)]
  · unfold cgdV; rw [if_neg (by omega), if_neg (by omega), if_pos (by omega)]
  · unfold cgdV; rw [if_neg (by omega), if_neg (by omega), if_neg (by omega)]
  · unfold cgdV; rw [if_neg (by omega), if_pos (by omega)]
  · unfold cgdV; rw [if_neg (by omega), if_neg (by omega), if_neg (by omega)]
  · unfold cgdV; rw [if_pos (by omega)]
  · unfold cgdV; rw [if_neg (by omega), if_neg (by omega), if_neg (by omega)]
theorem s0_tell_loop {r cap : Nat} {cs ps : List Int} {e : Nat} (hr : r + 2 ≤ P ∨ P + 5 ≤ r) (he : e ≤ 100) (hc : ∀ x ∈ cs, 0 ≤ x ∧ x ≤ 106) (hel : e ≤ cs.length) (n : Nat) : ∀ (i : Nat) (s : Int) (o : List Int) (h : jH), e ≤ i + n → i ≤ e + 2 → o.length + 2 * n ≤ cap → isBR h P B q lo wi fr → isRow h (P + 1) 100 cs → isRow h (P + 3) 100 ps → isRow h r cap o →
    (∀ h' hm, jFI r (r + 2) h hm → jFI P (P + 1) hm h' → isBR h' P B q lo wi fr → isRow h' r cap (tlF cs ps e n i s o).1 → fltO h h' P (tlF cs ps e n i s o).2 → Q (.inl none) h') → jWp (d + 1) mX0_tell 26 [(0, jR P), (1, jR r), (2, jI s), (3, jI e), (4, jI i)] [] h Q := by
  induction n with
  | zero =>
    intro i s o h hn hie ho H C S O k
    exact bX0_tell_26 (fun _ _ _ _ => ⟨fun _ => k h h .rfl .rfl H O ⟨rfl, rfl⟩, fun z => by omega⟩)
  | succ n ih =>
    intro i s o h hn hie ho H C S O k
    unfold tlF at k
    by_cases hd0 : e ≤ i
    · rw [if_pos hd0] at k
      exact bX0_tell_26 (fun _ _ _ _ => ⟨fun _ => k h h .rfl .rfl H O ⟨rfl, rfl⟩, fun z => by omega⟩)
    · rw [if_neg hd0] at k
      have cr : 0 ≤ lAt cs i ∧ lAt cs i ≤ 106 := by
        rw [lAt_get (by omega), List.getD_eq_getElem?_getD, List.getElem?_eq_getElem (by omega)]
        exact hc _ (List.getElem_mem _)
      -- on with the row longer
      have next : ∀ (g : jH) (s2 : Int) (o2 : List Int) (i2 : Nat), i2 ≤ e + 2 → e ≤ i2 + n → o2.length + 2 * n ≤ cap → jFI r (r + 2) h g → isRow g r cap o2 → (∀ h' hm, jFI r (r + 2) h hm → jFI P (P + 1) hm h' → isBR h' P B q lo wi fr → isRow h' r cap (tlF cs ps e n i2 s2 o2).1 → fltO h h' P (tlF cs ps e n i2 s2 o2).2 → Q (.inl none) h') → jWp (d + 1) mX0_tell 26 [(0, jR P), (1, jR r), (2, jI s2), (3, jI e), (4, jI i2)] [] g Q := by
        intro g s2 o2 i2 a1 a1' a2 f1 O1 k1
        refine ih i2 s2 o2 g a1' a1 a2 (f1.fr.br H (by omega)) (f1.row C (by omega)) (f1.row S (by omega)) O1 (fun h' hm f2 f3 H2 O2 F2 => k1 h' hm (f1.trans f2) f3 H2 O2 ?_)
        have w := (f1.2.2.2.2.2.2 P (by omega)).1
        cases hh : (tlF cs ps e n i2 s2 o2).2 with
        | none => rw [hh] at F2; exact ⟨F2.1.trans (w 7), F2.2.trans (w 8)⟩
        | some ab => rw [hh] at F2; exact F2
      have n223 : ∀ (g : jH) (s2 : Int) (o2 : List Int) (i2 : Nat), i2 + 1 ≤ e + 2 → e ≤ i2 + 1 + n → o2.length + 2 * n ≤ cap → jFI r (r + 2) h g → isRow g r cap o2 → (∀ h' hm, jFI r (r + 2) h hm → jFI P (P + 1) hm h' → isBR h' P B q lo wi fr → isRow h' r cap (tlF cs ps e n (i2 + 1) s2 o2).1 → fltO h h' P (tlF cs ps e n (i2 + 1) s2 o2).2 → Q (.inl none) h') → jWp (d + 1) mX0_tell 223 [(0, jR P), (1, jR r), (2, jI s2), (3, jI e), (4, jI i2)] [] g Q := fun g s2 o2 i2 a1 a1' a2 f1 O1 k1 => bX0_tell_223 (fun _ _ _ _ => ⟨⟨by omega, by omega⟩, next g s2 o2 (i2 + 1) a1 a1' a2 f1 O1 k1⟩)
      have a96 : ∀ nx : Int, nx = shfV s (lAt cs i) (if i + 1 < e then lAt cs (i + 1) else -1) → jWp (d + 1) mX0_tell 96 [(0, jR P), (1, jR r), (2, jI s), (3, jI e), (4, jI i), (5, jI (lAt cs i)), (6, jI (bytV s (lAt cs i)))] [jI nx] h Q := by
        intro nx hnx
        have a162 : ¬ (lAt cs i = 102) → ¬ (s = 105 ∧ lAt cs i < 100) → jWp (d + 1) mX0_tell 162 [(0, jR P), (1, jR r), (2, jI s), (3, jI e), (4, jI i), (6, jI (bytV s (lAt cs i))), (8, jI nx), (9, jI (cgdV s (lAt cs i)))] [] h Q := by
          intro z1 z2
          rw [if_neg z1, if_neg z2] at k
          refine bX0_tell_162 (fun _ _ _ _ _ _ _ => ⟨fun y => ⟨fun y2 => ⟨fun y3 => ⟨H.1, ?_⟩, fun y3 => ?_⟩, fun y2 => ⟨O.1, s7_put O (fun g f1 O1 => ⟨rfl, ⟨by omega, by omega⟩, ?_⟩)⟩⟩, fun y => ⟨O.1, s7_put O (fun g f1 O1 => ⟨rfl, ?_⟩)⟩⟩)
          · rw [if_neg (fun w => w y), if_neg (by rw [← hnx]; exact fun w => w y2), if_neg (fun w => w y3)] at k
            rw [H.2.2.2.1]
            refine ⟨S.1, s7_at S ⟨_, rfl, H.1, s0_noteFault H.1 ⟨rfl, k _ h .rfl (jFI_note h P 16 (lAt ps i)) ((H.setF (Or.inl rfl)).setF (Or.inr rfl)) ((jFI_note h P 16 (lAt ps i)).row O (by omega)) ⟨?_, ?_⟩⟩⟩⟩
            · rw [hI_sI, if_neg (by omega), hI_sI, if_pos ⟨.refl _, .refl _⟩]
            · rw [hI_sI, if_pos ⟨.refl _, .refl _⟩]
          · rw [if_neg (fun w => w y), if_neg (by rw [← hnx]; exact fun w => w y2), if_pos y3] at k
            exact n223 h _ o i (by omega) (by omega) (by omega) .rfl O k
          · rw [if_neg (fun w => w y), if_pos (by rw [← hnx]; exact y2), ← hnx] at k
            rw [lput_app (by omega)] at O1
            have hi1 : i + 1 < e := by
              by_cases w : i + 1 < e
              · exact w
              · rw [if_neg w] at hnx
                exfalso
                apply y2
                rw [hnx]
                unfold shfV
                split
                · unfold bytV
                  rw [if_neg (by omega)]
                · rfl
            exact n223 g s _ (i + 1) (by omega) (by omega) (by simp; omega) f1 O1 k
          · rw [if_pos y] at k
            rw [lput_app (by omega)] at O1
            exact n223 g s _ i (by omega) (by omega) (by simp; omega) f1 O1 k
        refine bX0_tell_96 (fun _ _ _ _ _ _ => s0_changedSet ⟨_, rfl, fun z => ⟨fun z2 => a162 z (fun w => z2 w.1), fun z2 => ⟨fun z3 => a162 z (fun w => by omega), fun z3 => ⟨cr.1, ⟨by omega, by omega⟩, O.1, s7_put O (fun g f1 O1 => ⟨rfl, cr.1, ⟨by omega, by omega⟩, O1.1, s7_put O1 (fun g2 f2 O2 => ⟨rfl, ?_⟩)⟩)⟩⟩⟩, fun z => ⟨O.1, s7_put O (fun g f1 O1 => ⟨rfl, ?_⟩)⟩⟩)
        · rw [if_neg z, if_pos ⟨z2, by omega⟩] at k
          rw [lput_app (l := o) (by omega)] at O1 O2
          rw [lput_app (l := o ++ [48 + lAt cs i / 10]) (by simp only [List.length_append, List.length_singleton]; omega), List.append_assoc] at O2
          exact n223 g2 s _ i (by omega) (by omega) (by simp; omega) (f1.trans f2) O2 k
        · rw [if_pos z] at k
          rw [lput_app (by omega)] at O1
          exact n223 g s _ i (by omega) (by omega) (by simp; omega) f1 O1 k
      refine bX0_tell_26 (fun _ _ _ _ => ⟨fun z => by omega, fun z => ⟨H.1, ?_⟩⟩)
      rw [H.2.2.1]
      refine ⟨C.1, s7_at C ⟨_, rfl, s0_byteIn ⟨_, rfl, ⟨by omega, by omega⟩, fun z2 => ⟨fun z3 => a96 _ ?_, fun z3 => s0_otherSet ⟨_, rfl, s0_byteIn ⟨_, rfl, a96 _ ?_⟩⟩⟩, fun z2 => ⟨H.1, ?_⟩⟩⟩⟩
      · unfold shfV; rw [if_neg z3]
      · unfold shfV; rw [if_pos z3, if_neg (by omega)]
      · rw [H.2.2.1]
        refine ⟨C.1, s7_at C ⟨_, rfl, fun z3 => a96 _ ?_, fun z3 => s0_otherSet ⟨_, rfl, s0_byteIn ⟨_, rfl, a96 _ ?_⟩⟩⟩⟩
        · unfold shfV; rw [if_neg z3]
        · unfold shfV; rw [if_pos z3, if_pos (by omega)]
theorem s0_tell {r cap : Nat} {cs ps o : List Int} (hr : r + 2 ≤ P ∨ P + 5 ≤ r) (hc : ∀ x ∈ cs, 0 ≤ x ∧ x ≤ 106) (hcap : 200 ≤ cap) (h3 : 2 ≤ cs.length) (H : isBR h P B q lo wi fr) (C : isRow h (P + 1) 100 cs) (S : isRow h (P + 3) 100 ps) (O : isRow h r cap o)
    (k : ∀ h' hm, jFI r (r + 2) h hm → jFI P (P + 1) hm h' → isBR h' P B q lo wi fr → isRow h' r cap (tlV cs ps).1 → fltO h h' P (tlV cs ps).2 → Q (.inl none) h') : jCall (d + 1) mX0_tell [jR P, jR r] h Q := by
  have cl := C.2.2.2.2.2.1
  refine bX0_tell (fun _ => ⟨O.1, s7_clear O (fun g f1 O1 => ⟨rfl, ?_⟩)⟩)
  have H1 := f1.fr.br H (by omega)
  have C1 := f1.row C (by omega)
  refine ⟨H1.1, ?_⟩
  rw [H1.2.2.1]
  refine ⟨C1.1, s7_at C1 ⟨_, rfl, H1.1, ?_⟩⟩
  rw [H1.2.2.1]
  refine ⟨C1.1, s7_count C1 ⟨_, rfl, ⟨by omega, by omega⟩, ?_⟩⟩
  rw [show (cs.length : Int) - 2 = ((cs.length - 2 : Nat) : Int) by omega]
  refine s0_tell_loop hr (by omega) hc (by omega) (cs.length - 2) 2 (lAt cs 0) [] g (by omega) (by omega) (by simp; omega) H1 C1 (f1.row S (by omega)) O1 (fun h' hm f2 f3 H2 O2 F2 => k h' hm (f1.trans f2) f3 H2 O2 ?_)
  have w := (f1.2.2.2.2.2.2 P (by omega)).1
  unfold tlV
  cases hh : (tlF cs ps (cs.length - 2) (cs.length - 2) 2 (lAt cs 0) []).2 with
  | none => rw [hh] at F2; exact ⟨F2.1.trans (w 7), F2.2.trans (w 8)⟩
  | some ab => rw [hh] at F2; exact F2
end T0
