/-! THE READER OF BARS -/
def isBR (h : jH) (P B q : Nat) (lo wi : Int) (fr : Bool) : Prop := hK h P = 1 ∧ hR h 0 P = B ∧ hR h 1 P = P + 1 ∧ hR h 2 P = P + 3 ∧ hR h 3 P = q ∧ hI h 4 P = lo ∧ hI h 5 P = wi ∧ hI h 6 P = b2i fr
theorem jFr.br {a b : Nat} {h h1 : jH} (p : jFr a b h h1) {P B q : Nat} {lo wi : Int} {fr : Bool} (H : isBR h P B q lo wi fr) (hd : P + 1 ≤ a ∨ b ≤ P) : isBR h1 P B q lo wi fr := by
  obtain ⟨p3, p4, p5, p6, p7⟩ := p
  obtain ⟨q1, q2, q3, q4, q5, q6, q7, q8⟩ := H
  have w := fun f => ((p7 P (by omega)).1 f).2
  have v := fun f => ((p7 P (by omega)).1 f).1
  exact ⟨by rw [p3]; exact q1, by rw [w]; exact q2, by rw [w]; exact q3, by rw [w]; exact q4, by rw [w]; exact q5, by rw [v]; exact q6, by rw [v]; exact q7, by rw [v]; exact q8⟩
def plcV (lo wi : Int) (fr : Bool) (i : Int) : Int := if fr = true then lo + wi - 1 - i else lo + i
/-- n modules from m on as bits -/
def patB (t : List Int) (lo wi : Int) (fr : Bool) : Nat → Int → Int → Int
  | 0, _, a => a
  | n + 1, m, a => patB t lo wi fr n (m + 1) (a * 2 + lAt t (plcV lo wi fr m))
def patA (t : List Int) (lo wi : Int) (fr : Bool) (i : Int) (n : Nat) : Int := if i + n ≤ wi then patB t lo wi fr n i 0 else -1
def begV (t : List Int) (lo wi : Int) (fr : Bool) : Bool := decide (103 ≤ idxI (patA t lo wi fr 0 11) patL 0)
def bitL (t : List Int) : Prop := ∀ x ∈ t, x = 0 ∨ x = 1
theorem bitL.at {t : List Int} (h : bitL t) {i : Int} (h0 : 0 ≤ i) (h1 : i < t.length) : lAt t i = 0 ∨ lAt t i = 1 := by
  unfold lAt
  rw [if_pos ⟨h0, h1⟩, List.getD_eq_getElem?_getD, List.getElem?_eq_getElem (by omega)]
  exact h _ (List.getElem_mem _)
def lzF (t : List Int) : Nat → Nat → Nat
  | 0, i => i
  | n + 1, i => if t.getD i 0 = 0 then lzF t n (i + 1) else i
def rzF (t : List Int) (l : Nat) : Nat → Nat
  | 0 => 0
  | k + 1 => if t.getD (l + (k + 1)) 0 = 0 then rzF t l k else k + 1
def lzV (t : List Int) : Nat := lzF t t.length 0
def wiV (t : List Int) : Nat := if lzV t = t.length then 0 else rzF t (lzV t) (t.length - 1 - lzV t) + 1
theorem lzF_rg (t : List Int) : ∀ n i, i ≤ lzF t n i ∧ lzF t n i ≤ i + n
  | 0, i => by simp [lzF]
  | n + 1, i => by
    have := lzF_rg t n (i + 1)
    unfold lzF
    split <;> omega
theorem rzF_rg (t : List Int) (l : Nat) : ∀ k, rzF t l k ≤ k
  | 0 => by simp [rzF]
  | k + 1 => by
    have := rzF_rg t l k
    unfold rzF
    split <;> omega
theorem wiV_rg (t : List Int) : lzV t + wiV t ≤ t.length := by
  have a := lzF_rg t t.length 0
  have b := rzF_rg t (lzV t) (t.length - 1 - lzV t)
  unfold wiV
  unfold lzV at *
  split <;> omega
section P0
variable {d : Nat} {h : jH} {Q : jO → jH → Prop} {P B q cap : Nat} {lo wi : Int} {fr : Bool} {t : List Int}
theorem s0_placeOf {i : Int} (H : isBR h P B q lo wi fr) (h0 : 0 ≤ lo ∧ lo ≤ 100000) (h1 : 0 ≤ wi ∧ wi ≤ 100000) (h2 : -100000 ≤ i ∧ i ≤ 100000) (k : Q (.inl (some (jI (plcV lo wi fr i)))) h) : jCall d mX0_placeOf [jR P, jI i] h Q := by
  obtain ⟨q1, q2, q3, q4, q5, q6, q7, q8⟩ := H
  refine bX0_placeOf (fun _ _ => ⟨q1, fun _ => ?_⟩)
  rw [q6, q7, q8]
  unfold plcV at k
  refine ⟨fun z => fun _ => ⟨⟨by omega, by omega⟩, ?_⟩, fun z => fun _ _ => ⟨⟨by omega, by omega⟩, ⟨by omega, by omega⟩, ⟨by omega, by omega⟩, ?_⟩⟩
  · rw [if_neg (by rw [(b2i_eq _).mp z]; decide)] at k; exact k
  · rw [if_pos ((b2i_ne _).mp z)] at k; exact k
theorem plcV_rg {i : Int} (h0 : 0 ≤ lo) (h2 : 0 ≤ i) (h3 : i < wi) : lo ≤ plcV lo wi fr i ∧ plcV lo wi fr i < lo + wi := by
  unfold plcV
  split <;> omega
theorem two13 : ∀ k : Nat, k < 13 → (2 : Int) ^ (k + 1) = 2 ^ k * 2 ∧ (2 : Int) ^ (k + 1) ≤ 8192 := by decide
theorem s0_patternAt_loop (ht : bitL t) (hl : t.length ≤ 100000) (H : isBR h P B q lo wi fr) (R : isRow h q cap t) (h0 : 0 ≤ lo) (h1 : 0 ≤ wi ∧ lo + wi ≤ t.length) {i : Int} {n0 : Nat} (hi : 0 ≤ i) (hin : i + n0 ≤ wi) (n : Nat) : ∀ (m : Int) (a : Int) (c : Nat), m + n = i + n0 → i ≤ m → c + n ≤ 13 → 0 ≤ a → a < 2 ^ c → Q (.inl (some (jI (patB t lo wi fr n m a)))) h → jWp (d + 1) mX0_patternAt 17 [(0, jR P), (1, jI i), (2, jI n0), (3, jI a), (4, jI m)] [] h Q := by
  induction n with
  | zero =>
    intro m a c hm him hc ha hb k
    exact bX0_patternAt_17 (fun _ _ _ _ _ => ⟨⟨by omega, by omega⟩, fun _ => k, fun z => by omega⟩)
  | succ n ih =>
    intro m a c hm him hc ha hb k
    have pr := plcV_rg (lo := lo) (wi := wi) (fr := fr) (i := m) h0 (by omega) (by omega)
    have bt := ht.at (i := plcV lo wi fr m) (by omega) (by omega)
    obtain ⟨t1, t2⟩ := two13 c (by omega)
    refine bX0_patternAt_17 (fun _ _ _ _ _ => ⟨⟨by omega, by omega⟩, fun z => by omega, fun z => ⟨⟨by omega, by omega⟩, H.1, s0_placeOf H ⟨by omega, by omega⟩ ⟨by omega, by omega⟩ ⟨by omega, by omega⟩ ⟨_, rfl, ?_⟩⟩⟩)
    rw [H.2.2.2.2.1]
    exact ⟨R.1, s7_at R ⟨_, rfl, ⟨by omega, by omega⟩, ⟨by omega, by omega⟩, ih (m + 1) _ (c + 1) (by omega) (by omega) (by omega) (by omega) (by omega) k⟩⟩
theorem s0_patternAt {i : Int} {n : Nat} (ht : bitL t) (hl : t.length ≤ 100000) (H : isBR h P B q lo wi fr) (R : isRow h q cap t) (h0 : 0 ≤ lo) (h1 : 0 ≤ wi ∧ lo + wi ≤ t.length) (hi : 0 ≤ i ∧ i ≤ 100000) (hn : n ≤ 13) (k : Q (.inl (some (jI (patA t lo wi fr i n)))) h) : jCall (d + 1) mX0_patternAt [jR P, jI i, jI n] h Q := by
  unfold patA at k
  refine bX0_patternAt (fun _ _ _ => ⟨⟨by omega, by omega⟩, H.1, fun _ => ?_⟩)
  rw [H.2.2.2.2.2.2.1]
  refine ⟨fun z => ?_, fun z => ?_⟩
  · rw [if_pos z] at k
    exact s0_patternAt_loop ht hl H R h0 h1 hi.1 z n i 0 0 rfl (by omega) (by omega) (by omega) (by decide) k
  · rw [if_neg z] at k
    exact k
theorem s0_beginsWithStart (ht : bitL t) (hl : t.length ≤ 100000) (H : isBR h P B q lo wi fr) (R : isRow h q cap t) (HB : isBars h B) (h0 : 0 ≤ lo) (h1 : 0 ≤ wi ∧ lo + wi ≤ t.length) (k : Q (.inl (some (jI (b2i (begV t lo wi fr))))) h) : jCall (d + 2) mX0_beginsWithStart [jR P] h Q := by
  unfold begV at k
  refine bX0_beginsWithStart (fun _ => ⟨H.1, s0_patternAt (n := 11) ht hl H R h0 h1 ⟨by decide, by decide⟩ (by decide) ⟨_, rfl, ?_⟩⟩)
  rw [H.2.1]
  refine ⟨HB.1, s1_characterOf HB ⟨_, rfl, fun z => ?_, fun z => ?_⟩⟩
  · rw [decide_eq_false (by omega)] at k; exact k
  · rw [decide_eq_true (by omega)] at k; exact k
theorem isBR.setFr {fr2 : Bool} (H : isBR h P B q lo wi fr) : isBR (sI h 6 P (b2i fr2)) P B q lo wi fr2 := by
  obtain ⟨q1, q2, q3, q4, q5, q6, q7, q8⟩ := H
  exact ⟨q1, q2, q3, q4, q5, by rw [hI_sI, if_neg (by omega)]; exact q6, by rw [hI_sI, if_neg (by omega)]; exact q7, by rw [hI_sI, if_pos ⟨.refl _, .refl _⟩]⟩
theorem isBR.setF {f : Nat} {v : Int} (hf : f = 7 ∨ f = 8) (H : isBR h P B q lo wi fr) : isBR (sI h f P v) P B q lo wi fr := by
  obtain ⟨q1, q2, q3, q4, q5, q6, q7, q8⟩ := H
  exact ⟨q1, q2, q3, q4, q5, by rw [hI_sI, if_neg (by omega)]; exact q6, by rw [hI_sI, if_neg (by omega)]; exact q7, by rw [hI_sI, if_neg (by omega)]; exact q8⟩
def frV (t : List Int) (lo wi : Int) : Bool := !begV t lo wi false && begV t lo wi true
theorem s0_chooseSide (hq : q + 2 ≤ P ∨ P + 1 ≤ q) (hB : B + 2 ≤ P ∨ P + 1 ≤ B) (ht : bitL t) (hl : t.length ≤ 100000) (H : isBR h P B q lo wi fr) (R : isRow h q cap t) (HB : isBars h B) (h0 : 0 ≤ lo) (h1 : 0 ≤ wi ∧ lo + wi ≤ t.length) (k : ∀ h', jFI P (P + 1) h h' → hI h' 7 P = hI h 7 P → hI h' 8 P = hI h 8 P → isBR h' P B q lo wi (frV t lo wi) → Q (.inl none) h') : jCall (d + 3) mX0_chooseSide [jR P] h Q := by
  have f1 := jFI_I h 6 P 0
  have f2 := f1.trans (jFI_I _ 6 P 1)
  have H1 : isBR (sI h 6 P 0) P B q lo wi false := H.setFr (fr2 := false)
  have H2 : isBR (sI (sI h 6 P 0) 6 P 1) P B q lo wi true := H1.setFr (fr2 := true)
  have fin : ∀ b : Bool, frV t lo wi = b → Q (.inl none) (sI (sI (sI h 6 P 0) 6 P 1) 6 P (b2i b)) := fun b e => k _ (f2.trans (jFI_I _ 6 P _)) (by rw [hI_sI, if_neg (by omega), hI_sI, if_neg (by omega), hI_sI, if_neg (by omega)]) (by rw [hI_sI, if_neg (by omega), hI_sI, if_neg (by omega), hI_sI, if_neg (by omega)]) (by rw [e]; exact H2.setFr)
  refine bX0_chooseSide (fun _ => ⟨H.1, s0_beginsWithStart ht hl H1 (f1.row R (by omega)) (f1.fr.bars HB (by omega)) h0 h1 ⟨_, rfl, H.1, s0_beginsWithStart ht hl H2 (f2.row R (by omega)) (f2.fr.bars HB (by omega)) h0 h1 ⟨_, rfl, fun z => ⟨H.1, fin false ?_⟩, fun z => ⟨fun z2 => ⟨H.1, fin false ?_⟩, fun z2 => ⟨H.1, fin true ?_⟩⟩⟩⟩⟩)
  · unfold frV; rw [(b2i_ne _).mp z]; rfl
  · unfold frV; rw [(b2i_eq _).mp z2, Bool.and_false]
  · unfold frV; rw [(b2i_eq _).mp z, (b2i_ne _).mp z2]; rfl
theorem s0_noteFault {a b : Int} (hP : hK h P = 1) (k : Q (.inl none) (sI (sI h 7 P a) 8 P b)) : jCall d mX0_noteFault [jR P, jI a, jI b] h Q := bX0_noteFault (fun _ _ _ => ⟨hP, k⟩)
theorem s0_ends40 (hl : t.length ≤ 100000) (H : isBR h P B q lo wi fr) (R : isRow h q cap t) {l : Nat} (hlt : l < t.length) (k : Nat) : l + k < t.length → (∀ h', jFI P (P + 1) h h' → hI h' 7 P = hI h 7 P → hI h' 8 P = hI h 8 P → isBR h' P B q l (rzF t l k + 1) fr → Q (.inl none) h') → jWp (d + 1) mX0_leaveOutEnds 40 [(0, jR P), (1, jI l), (2, jI (l + k))] [] h Q := by
  have fin : ∀ w : Nat, w < 100000 → (∀ h', jFI P (P + 1) h h' → hI h' 7 P = hI h 7 P → hI h' 8 P = hI h 8 P → isBR h' P B q l (w + 1) fr → Q (.inl none) h') → hK h P = 1 ∧ j32 ((l : Int) + w - l) ∧ j32 ((l : Int) + w - l + 1) ∧ jCall d mJ9_max_7cf53 [jI ((l : Int) + w - l + 1), jI 0] (sI h 4 P l) (fun o h74 => ∃ v74, o = .inl (some (jI v74)) ∧ hK h74 P = 1 ∧ Q (.inl none) (sI h74 5 P v74)) := fun w hw kk => by
    refine ⟨H.1, ⟨by omega, by omega⟩, ⟨by omega, by omega⟩, s9_max ⟨_, rfl, H.1, ?_⟩⟩
    rw [show max ((l : Int) + w - l + 1) 0 = w + 1 by omega]
    obtain ⟨q1, q2, q3, q4, q5, q6, q7, q8⟩ := H
    refine kk _ ((jFI_I h 4 P _).trans (jFI_I _ 5 P _)) (by rw [hI_sI, if_neg (by omega), hI_sI, if_neg (by omega)]) (by rw [hI_sI, if_neg (by omega), hI_sI, if_neg (by omega)]) ⟨q1, q2, q3, q4, q5, by rw [hI_sI, if_neg (by omega), hI_sI, if_pos ⟨.refl _, .refl _⟩], by rw [hI_sI, if_pos ⟨.refl _, .refl _⟩], by rw [hI_sI, if_neg (by omega), hI_sI, if_neg (by omega)]; exact q8⟩
  induction k with
  | zero =>
    intro hk kk
    exact bX0_leaveOutEnds_40 (fun _ _ _ => ⟨fun _ => fin 0 (by omega) (by simpa [rzF] using kk), fun z => by omega⟩)
  | succ k ih =>
    intro hk kk
    unfold rzF at kk
    refine bX0_leaveOutEnds_40 (fun _ _ _ => ⟨fun z => by omega, fun z => ⟨H.1, ?_⟩⟩)
    rw [H.2.2.2.2.1]
    refine ⟨R.1, s7_at R ⟨_, rfl, fun z2 => ?_, fun z2 => ⟨⟨by omega, by omega⟩, ?_⟩⟩⟩
    · have e : lAt t ((l : Int) + ((k + 1 : Nat) : Int)) = t.getD (l + (k + 1)) 0 := by
        rw [← Int.natCast_add]; exact lAt_get hk
      rw [e] at z2
      rw [if_neg z2] at kk
      exact fin (k + 1) (by omega) kk
    · have e : lAt t ((l : Int) + ((k + 1 : Nat) : Int)) = t.getD (l + (k + 1)) 0 := by
        rw [← Int.natCast_add]; exact lAt_get hk
      rw [e] at z2
      rw [if_pos z2] at kk
      have := ih (by omega) kk
      rw [show (l : Int) + ((k + 1 : Nat) : Int) + (-1) = l + k by omega]
      exact this
theorem s0_ends12 (hl : t.length ≤ 100000) (H : isBR h P B q lo wi fr) (R : isRow h q cap t) (n : Nat) : ∀ l : Nat, l + n = t.length → (∀ h', jFI P (P + 1) h h' → hI h' 7 P = hI h 7 P → hI h' 8 P = hI h 8 P → isBR h' P B q (lzF t n l) (if lzF t n l = t.length then 0 else (rzF t (lzF t n l) (t.length - 1 - lzF t n l) + 1 : Nat)) fr → Q (.inl none) h') → jWp (d + 1) mX0_leaveOutEnds 12 [(0, jR P), (1, jI l), (2, jI ((t.length : Int) - 1))] [] h Q := by
  induction n with
  | zero =>
    intro l hn kk
    refine bX0_leaveOutEnds_12 (fun _ _ _ => ⟨H.1, ?_⟩)
    rw [H.2.2.2.2.1]
    refine ⟨R.1, s7_count R ⟨_, rfl, fun _ => ?_, fun z => by omega⟩⟩
    simp only [lzF, show l = t.length by omega, if_true] at kk
    refine bX0_leaveOutEnds_40 (fun _ _ _ => ⟨fun _ => ⟨H.1, ⟨by omega, by omega⟩, ⟨by omega, by omega⟩, s9_max ⟨_, rfl, H.1, ?_⟩⟩, fun z => by omega⟩)
    rw [show max ((t.length : Int) - 1 - l + 1) 0 = 0 by omega, show (l : Int) = t.length by omega]
    obtain ⟨q1, q2, q3, q4, q5, q6, q7, q8⟩ := H
    refine kk _ ((jFI_I h 4 P _).trans (jFI_I _ 5 P _)) (by rw [hI_sI, if_neg (by omega), hI_sI, if_neg (by omega)]) (by rw [hI_sI, if_neg (by omega), hI_sI, if_neg (by omega)]) ⟨q1, q2, q3, q4, q5, by rw [hI_sI, if_neg (by omega), hI_sI, if_pos ⟨.refl _, .refl _⟩], by rw [hI_sI, if_pos ⟨.refl _, .refl _⟩], by rw [hI_sI, if_neg (by omega), hI_sI, if_neg (by omega)]; exact q8⟩
  | succ n ih =>
    intro l hn kk
    refine bX0_leaveOutEnds_12 (fun _ _ _ => ⟨H.1, ?_⟩)
    rw [H.2.2.2.2.1]
    refine ⟨R.1, s7_count R ⟨_, rfl, fun z => by omega, fun _ => ⟨H.1, ?_⟩⟩⟩
    rw [H.2.2.2.2.1]
    refine ⟨R.1, s7_at R ⟨_, rfl, fun z2 => ?_, fun z2 => ⟨⟨by omega, by omega⟩, ?_⟩⟩⟩
    · rw [lAt_get (by omega)] at z2
      simp only [lzF, if_neg z2] at kk
      rw [if_neg (by omega)] at kk
      have := s0_ends40 (d := d) hl H R (l := l) (by omega) (t.length - 1 - l) (by omega) (fun h' f1 f2 f3 H' => kk h' f1 f2 f3 (by rw [Int.natCast_add]; exact H'))
      rw [show (l : Int) + ((t.length - 1 - l : Nat) : Int) = (t.length : Int) - 1 by omega] at this
      exact this
    · rw [lAt_get (by omega)] at z2
      simp only [lzF, if_pos z2] at kk
      exact ih (l + 1) (by omega) kk
theorem s0_leaveOutEnds (hl : t.length ≤ 100000) (H : isBR h P B q lo wi fr) (R : isRow h q cap t) (k : ∀ h', jFI P (P + 1) h h' → hI h' 7 P = hI h 7 P → hI h' 8 P = hI h 8 P → isBR h' P B q (lzV t) (wiV t) fr → Q (.inl none) h') : jCall (d + 1) mX0_leaveOutEnds [jR P] h Q := by
  refine bX0_leaveOutEnds (fun _ => ⟨H.1, ?_⟩)
  rw [H.2.2.2.2.1]
  refine ⟨R.1, s7_count R ⟨_, rfl, ⟨by omega, by omega⟩, s0_ends12 hl H R t.length 0 (by omega) (fun h' f1 f2 f3 H' => k h' f1 f2 f3 ?_)⟩⟩
  unfold wiV
  unfold lzV
  split
  · rename_i e
    rw [if_pos e] at H'
    exact H'
  · rename_i e
    rw [if_neg e] at H'
    exact H'
end P0
