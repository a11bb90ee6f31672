/-! LABELS: strings, symbols -/
def fixE (x : jE) : Bool := fixV x.1 x.2.1
def sepB (es : List jE) (f k : Nat) : Bool := decide (f < k) && !fixE (es.getD (k - 1) dE)
def byV (es : List jE) (f k : Nat) : Int := b2i (sepB es f k) + (es.getD k dE).2.1 + (es.getD k dE).2.2.1.length
def sumN (f : Nat → Int) : Nat → Nat → Int
  | 0, _ => 0
  | n + 1, i => f i + sumN f n (i + 1)
/-- where a symbol ends: n elements left, the next one is i, bytes so far -/
def seF (es : List jE) (f : Nat) : Nat → Nat → Int → Nat
  | 0, i, _ => i
  | n + 1, i, a => if 48 < a + byV es f i then i else seF es f n (i + 1) (a + byV es f i)
def seV (es : List jE) (f : Nat) : Nat := seF es f (es.length - f) f 0
def syF (es : List jE) : Nat → Nat → Int → Int
  | 0, _, _ => -1
  | n + 1, b, s => if es.length ≤ b then s else if seV es b = b then -1 else syF es n (seV es b) (s + 1)
def strF (es : List jE) (f : Nat) : Nat → Nat → List Int
  | 0, _ => []
  | n + 1, k => (if sepB es f k = true then [29] else []) ++ (aiStr (es.getD k dE).1 (es.getD k dE).2.1 ++ ((es.getD k dE).2.2.1 ++ strF es f n (k + 1)))
def brF (es : List jE) : List Int := es.flatMap brStr
theorem seF_rg (es : List jE) (f : Nat) : ∀ (n i : Nat) (a : Int), i ≤ seF es f n i a ∧ seF es f n i a ≤ i + n
  | 0, i, a => by simp [seF]
  | n + 1, i, a => by
    have := seF_rg es f n (i + 1) (a + byV es f i)
    unfold seF
    split <;> omega
section M6
variable {d : Nat} {h : jH} {Q : jO → jH → Prop} {L : Nat} {es : List jE}
theorem isLab.elr (H : isLab h L es) {k : Nat} (hk : k < es.length) : 2 ≤ (es.getD k dE).2.1 ∧ (es.getD k dE).2.1 ≤ 4 ∧ (es.getD k dE).2.2.1.length ≤ 90 := by
  have := H.2.2.2 k hk
  have q := this.2.2.1.2.2.2.2.2.1
  have q2 := this.2.2.2.2.2.2.2.2.2.2
  exact ⟨q2.1, q2.2, q⟩
theorem byV_rg (H : isLab h L es) {f k : Nat} (hk : k < es.length) : 0 ≤ byV es f k ∧ byV es f k ≤ 95 := by
  have := H.elr hk
  have := b2i_rg (sepB es f k)
  unfold byV
  omega
theorem s6_bytesOf {k f : Nat} (H : isLab h L es) (hk : k < es.length) (kk : Q (.inl (some (jI (byV es f k)))) h) : jCall (d + 2) mX6_bytesOf [jR L, jI k, jI f] h Q := by
  have q := H.2.2.1
  have r := H.elr hk
  have he := H.2.2.2 k hk
  have e0 : hQ h (L + 1) (k : Int) = elV h L k := rfl
  have tail : ∀ b : Bool, sepB es f k = b → j32 (b2i b + (es.getD k dE).2.1) ∧ hK h L = 5 ∧ hK h (hR h 400 L) = 14 ∧ (0 : Int) ≤ k ∧ (k : Int) < hN h (hR h 400 L) ∧ hK h (hQ h (hR h 400 L) k) = 3 ∧ jCall (d + 1) mX4_value [jR (hQ h (hR h 400 L) k)] h (fun o h42 => ∃ v42, o = .inl (some (jR v42)) ∧ hK h42 v42 = 6 ∧ jCall (d + 1) mX7_count [jR v42] h42 (fun o h45 => ∃ v45, o = .inl (some (jI v45)) ∧ j32 ((b2i b + (es.getD k dE).2.1) + v45) ∧ Q (.inl (some (jI ((b2i b + (es.getD k dE).2.1) + v45)))) h45)) := fun b hb => by
    rw [H.1.2.1, H.1.2.2.2.2.2.1, e0]
    have br := b2i_rg b
    unfold byV at kk
    rw [hb] at kk
    exact ⟨⟨by omega, by omega⟩, H.1.1, H.1.2.2.2.1, by omega, by omega, he.1, s4_value he.sh ⟨_, rfl, he.2.2.1.1, s7_count he.2.2.1 ⟨_, rfl, ⟨by omega, by omega⟩, kk⟩⟩⟩
  refine bX6_bytesOf (fun _ _ _ => ⟨fun z => ?_, fun z => ?_⟩)
  · have t := tail false (by unfold sepB; rw [decide_eq_false (by omega)]; rfl)
    rw [H.1.2.1, H.1.2.2.2.2.2.1, e0]
    refine ⟨H.1.1, H.1.2.2.2.1, by omega, by omega, he.1, s4_digits he ⟨_, rfl, ?_⟩⟩
    exact t
  · have e1 : hQ h (L + 1) ((k : Int) - 1) = elV h L (k - 1) := by unfold elV; congr 1; omega
    rw [H.1.2.1, H.1.2.2.2.2.2.1, e1]
    have he1 := H.2.2.2 (k - 1) (by omega)
    refine ⟨H.1.1, ⟨by omega, by omega⟩, H.1.2.2.2.1, by omega, by omega, he1.1, s4_isFixed he1 ⟨_, rfl, fun y => ?_, fun y => ?_⟩⟩
    · have t := tail false (by unfold sepB fixE; rw [(b2i_ne _).mp y]; simp)
      rw [H.1.2.1, H.1.2.2.2.2.2.1, e0]
      exact ⟨H.1.1, H.1.2.2.2.1, by omega, by omega, he.1, s4_digits he ⟨_, rfl, t⟩⟩
    · have t := tail true (by unfold sepB fixE; rw [(b2i_eq _).mp y, decide_eq_true (by omega)]; rfl)
      rw [H.1.2.1, H.1.2.2.2.2.2.1, e0]
      exact ⟨H.1.1, H.1.2.2.2.1, by omega, by omega, he.1, s4_digits he ⟨_, rfl, t⟩⟩
theorem s6_stringBytes_loop (H : isLab h L es) (n : Nat) : ∀ (i : Nat) (a : Int), i + n = es.length → 0 ≤ a → a + 95 * n ≤ 100000 → Q (.inl (some (jI (a + sumN (byV es 0) n i)))) h → jWp (d + 3) mX6_stringBytes 4 [(0, jR L), (1, jI a), (2, jI i)] [] h Q := by
  have q := H.2.2.1
  induction n with
  | zero =>
    intro i a hn h0 h1 k
    refine bX6_stringBytes_4 (fun _ _ _ => ⟨H.1.1, fun _ => ⟨fun _ => ?_, fun z => ?_⟩⟩)
    · simp only [sumN, Int.add_zero] at k
      exact k
    · rw [H.2.1] at z
      omega
  | succ n ih =>
    intro i a hn h0 h1 k
    have r := byV_rg H (f := 0) (k := i) (by omega)
    refine bX6_stringBytes_4 (fun _ _ _ => ⟨H.1.1, fun _ => ⟨fun z => ?_, fun z => s6_bytesOf (f := 0) H (by omega) ⟨_, rfl, ⟨by omega, by omega⟩, ⟨by omega, by omega⟩, ?_⟩⟩⟩)
    · rw [H.2.1] at z
      omega
    · simp only [sumN, ← Int.add_assoc] at k
      exact ih (i + 1) _ (by omega) (by omega) (by omega) k
theorem s6_stringBytes (H : isLab h L es) (k : Q (.inl (some (jI (sumN (byV es 0) es.length 0)))) h) : jCall (d + 3) mX6_stringBytes [jR L] h Q := by
  have q := H.2.2.1
  exact bX6_stringBytes (fun _ => s6_stringBytes_loop H es.length 0 0 (by omega) (by omega) (by omega) (by rw [Int.zero_add]; exact k))
theorem s6_symbolEnd_loop {f : Nat} (H : isLab h L es) (n : Nat) : ∀ (i : Nat) (a : Int), i + n = es.length → 0 ≤ a → a ≤ 48 → Q (.inl (some (jI (seF es f n i a)))) h → jWp (d + 3) mX6_symbolEnd 8 [(0, jR L), (1, jI f), (2, jI a), (3, jI i)] [] h Q := by
  have q := H.2.2.1
  induction n with
  | zero =>
    intro i a hn h0 h1 k
    refine bX6_symbolEnd_8 (fun _ _ _ _ => ⟨H.1.1, fun _ => ⟨fun _ => ?_, fun z => ?_⟩⟩)
    · rw [H.2.1, ← hn]
      exact k
    · rw [H.2.1] at z
      omega
  | succ n ih =>
    intro i a hn h0 h1 k
    have r := byV_rg H (f := f) (k := i) (by omega)
    unfold seF at k
    refine bX6_symbolEnd_8 (fun _ _ _ _ => ⟨H.1.1, fun _ => ⟨fun z => ?_, fun z => s6_bytesOf (f := f) H (by omega) ⟨_, rfl, ⟨by omega, by omega⟩, fun z2 => ⟨⟨by omega, by omega⟩, ?_⟩, fun z2 => ?_⟩⟩⟩)
    · rw [H.2.1] at z
      omega
    · rw [if_neg (by omega)] at k
      exact ih (i + 1) _ (by omega) (by omega) (by omega) k
    · rw [if_pos (by omega)] at k
      exact k
theorem s6_symbolEnd {f : Nat} (H : isLab h L es) (hf : f ≤ es.length) (k : Q (.inl (some (jI (seV es f)))) h) : jCall (d + 3) mX6_symbolEnd [jR L, jI f] h Q := by
  refine bX6_symbolEnd (fun _ _ => s9_max ⟨_, rfl, ?_⟩)
  rw [show max (f : Int) 0 = f by omega]
  exact s6_symbolEnd_loop H (es.length - f) f 0 (by omega) (by omega) (by omega) k
theorem s6_symbols_loop (H : isLab h L es) (n : Nat) : ∀ (b : Nat) (s : Int), s + n = 21 → 0 ≤ s → b ≤ es.length → Q (.inl (some (jI (syF es n b s)))) h → jWp (d + 4) mX6_symbols 4 [(0, jR L), (1, jI b), (2, jI s)] [] h Q := by
  have q := H.2.2.1
  induction n with
  | zero =>
    intro b s hn h0 hb k
    exact bX6_symbols_4 (fun _ _ _ => ⟨fun _ => k, fun z => by omega⟩)
  | succ n ih =>
    intro b s hn h0 hb k
    unfold syF at k
    refine bX6_symbols_4 (fun _ _ _ => ⟨fun z => by omega, fun z => ⟨H.1.1, fun _ => ?_⟩⟩)
    rw [H.2.1]
    refine ⟨fun z2 => s6_symbolEnd H hb ⟨_, rfl, fun z3 => ⟨⟨by omega, by omega⟩, ?_⟩, fun z3 => ?_⟩, fun z2 => ?_⟩
    · rw [if_neg (by omega), if_neg (by omega)] at k
      have := seF_rg es b (es.length - b) b 0
      exact ih _ (s + 1) (by omega) (by omega) (by unfold seV; omega) k
    · rw [if_neg (by omega), if_pos (by omega)] at k
      exact k
    · rw [if_pos (by omega)] at k
      exact k
theorem s6_symbols (H : isLab h L es) (k : Q (.inl (some (jI (syF es 21 0 0)))) h) : jCall (d + 4) mX6_symbols [jR L] h Q :=
  bX6_symbols (fun _ => s6_symbols_loop H 21 0 0 (by omega) (by omega) (by omega) k)
theorem s6_writeString_loop {f r cap : Nat} {t : Nat} (ht : t ≤ es.length) (hd : r + 2 ≤ L ∨ L + 63 ≤ r) (n : Nat) : ∀ (i : Nat) (h : jH) (l : List Int), i + n = t → l.length + 95 * n ≤ cap → isLab h L es → isRow h r cap l → (∀ h', jFI r (r + 2) h h' → isRow h' r cap (l ++ strF es f n i) → Q (.inl none) h') → jWp (d + 3) mX6_writeString 7 [(0, jR L), (1, jR r), (2, jI f), (3, jI t), (4, jI i)] [] h Q := by
  induction n with
  | zero =>
    intro i h l hn hc H R k
    exact bX6_writeString_7 (fun _ _ _ _ => ⟨fun _ => k h .rfl (by simpa [strF] using R), fun z => by omega⟩)
  | succ n ih =>
    intro i h l hn hc H R k
    have q := H.2.2.1
    have er := H.elr (k := i) (by omega)
    have al : (aiStr (es.getD i dE).1 (es.getD i dE).2.1).length = (es.getD i dE).2.1.toNat := aiF_len _ _ _
    have tail : ∀ (g : jH) (l2 : List Int), isLab g L es → isRow g r cap l2 → l2.length + 94 + 95 * n ≤ cap → (∀ h', jFI r (r + 2) g h' → isRow h' r cap (l2 ++ (aiStr (es.getD i dE).1 (es.getD i dE).2.1 ++ ((es.getD i dE).2.2.1 ++ strF es f n (i + 1)))) → Q (.inl none) h') →
        hK g (hR g 400 L) = 14 ∧ (0 : Int) ≤ i ∧ (i : Int) < hN g (hR g 400 L) ∧ hK g (hQ g (hR g 400 L) i) = 3 ∧ jCall (d + 2) mX4_writeAi [jR (hQ g (hR g 400 L) i), jR r] g (fun o h57 => o = .inl none ∧ hK h57 L = 5 ∧ hK h57 (hR h57 400 L) = 14 ∧ (0 : Int) ≤ i ∧ (i : Int) < hN h57 (hR h57 400 L) ∧ hK h57 (hQ h57 (hR h57 400 L) i) = 3 ∧ jCall (d + 2) mX4_value [jR (hQ h57 (hR h57 400 L) i)] h57 (fun o h68 => ∃ v68, o = .inl (some (jR v68)) ∧ hK h68 r = 6 ∧ jCall (d + 2) mX7_append [jR r, jR v68] h68 (fun o h71 => o = .inl none ∧ j32 ((i : Int) + 1) ∧ jWp (d + 3) mX6_writeString 7 [(0, jR L), (1, jR r), (2, jI f), (3, jI t), (4, jI ((i : Int) + 1))] [] h71 Q))) := by
      intro g l2 G R2 hc2 k2
      rw [G.1.2.1, G.1.2.2.2.2.2.1]
      have he := G.2.2.2 i (by omega)
      have rg := G.1.rg (k := i) (by omega)
      refine ⟨G.1.2.2.2.1, by omega, by omega, he.1, s4_writeAi (e := elV g L i) (by omega) (by omega) he R2 (fun g3 f3 R3 => ⟨rfl, ?_⟩)⟩
      have G3 := f3.lab G (by omega)
      have he3 := G3.2.2.2 i (by omega)
      have rg3 := G3.1.rg (k := i) (by omega)
      rw [G3.1.2.1, G3.1.2.2.2.2.2.1]
      refine ⟨G3.1.1, G3.1.2.2.2.1, by omega, by omega, he3.1, s4_value he3.sh ⟨_, rfl, R3.1, s7_append (show elV g3 L i + 1 + 2 ≤ r ∨ r + 2 ≤ elV g3 L i + 1 by omega) R3 he3.2.2.1 (fun g4 f4 R4 => ⟨rfl, ⟨by omega, by omega⟩, ?_⟩)⟩⟩
      rw [lputs_app (by simp only [List.length_append]; omega)] at R4
      refine ih (i + 1) g4 _ (by omega) (by simp only [List.length_append]; omega) (f4.lab G3 (by omega)) R4 (fun g5 f5 R5 => k2 g5 ((f3.trans f4).trans f5) ?_)
      simpa using R5
    unfold strF at k
    refine bX6_writeString_7 (fun _ _ _ _ => ⟨fun z => by omega, fun z => ⟨H.1.1, fun _ => ⟨fun z2 => ?_, fun z2 => ⟨fun z3 => ?_, fun z3 => ?_⟩⟩⟩⟩)
    · rw [H.2.1] at z2
      omega
    · rw [if_neg (by unfold sepB; rw [decide_eq_false (by omega)]; simp), List.nil_append] at k
      exact tail h l H R (by omega) k
    · have e1 : hQ h (L + 1) ((i : Int) - 1) = elV h L (i - 1) := by unfold elV; congr 1; omega
      have he1 := H.2.2.2 (i - 1) (by omega)
      rw [H.1.2.1, H.1.2.2.2.2.2.1, e1]
      refine ⟨⟨by omega, by omega⟩, H.1.2.2.2.1, by omega, by omega, he1.1, s4_isFixed he1 ⟨_, rfl, fun y => ⟨H.1.1, ?_⟩, fun y => ⟨R.1, s7_put R (fun g f1 R1 => ⟨rfl, ?_⟩)⟩⟩⟩
      · rw [if_neg (by unfold sepB fixE; rw [(b2i_ne _).mp y]; simp), List.nil_append] at k
        exact tail h l H R (by omega) k
      · rw [if_pos (by unfold sepB fixE; rw [(b2i_eq _).mp y, decide_eq_true (by omega)]; rfl)] at k
        rw [lput_app (by omega)] at R1
        have G := f1.lab H (by omega)
        exact ⟨G.1.1, tail g _ G R1 (by simp; omega) (fun g5 f5 R5 => k g5 (f1.trans f5) (by simpa using R5))⟩
theorem s6_writeString {f t r cap : Nat} {l : List Int} (hf : f ≤ t) (ht : t ≤ es.length) (hd : r + 2 ≤ L ∨ L + 63 ≤ r) (hc : l.length + 95 * (t - f) ≤ cap) (H : isLab h L es) (R : isRow h r cap l) (k : ∀ h', jFI r (r + 2) h h' → isRow h' r cap (l ++ strF es f (t - f) f) → Q (.inl none) h') : jCall (d + 3) mX6_writeString [jR L, jR r, jI f, jI t] h Q := by
  refine bX6_writeString (fun _ _ _ => s9_max ⟨_, rfl, ?_⟩)
  rw [show max (f : Int) 0 = f by omega]
  exact s6_writeString_loop ht hd (t - f) f h l (by omega) hc H R k
theorem s6_writeInBrackets_loop {r cap : Nat} (hd : r + 2 ≤ L ∨ L + 63 ≤ r) (n : Nat) : ∀ (i : Nat) (h : jH) (l : List Int), i + n = es.length → l.length + 186 * n ≤ cap → isLab h L es → isRow h r cap l → (∀ h', jFI r (r + 2) h h' → isRow h' r cap (l ++ brF (es.drop i)) → Q (.inl none) h') → jWp (d + 3) mX6_writeInBrackets 2 [(0, jR L), (1, jR r), (2, jI i)] [] h Q := by
  induction n with
  | zero =>
    intro i h l hn hc H R k
    refine bX6_writeInBrackets_2 (fun _ _ => ⟨H.1.1, fun _ => ⟨fun _ => ?_, fun z => ?_⟩⟩)
    · rw [List.drop_eq_nil_of_le (by omega)] at k
      exact k h .rfl (by simpa [brF] using R)
    · rw [H.2.1] at z
      omega
  | succ n ih =>
    intro i h l hn hc H R k
    have q := H.2.2.1
    have er := H.elr (k := i) (by omega)
    have he := H.2.2.2 i (by omega)
    have rg := H.1.rg (k := i) (by omega)
    have bl : (brStr (es.getD i dE)).length ≤ 186 := by
      have al : (aiStr (es.getD i dE).1 (es.getD i dE).2.1).length = (es.getD i dE).2.1.toNat := aiF_len _ _ _
      have := escV_len (es.getD i dE).2.2.1
      unfold brStr
      simp only [List.length_append, List.length_singleton]
      omega
    refine bX6_writeInBrackets_2 (fun _ _ => ⟨H.1.1, fun _ => ⟨fun z => ?_, fun z => ?_⟩⟩)
    · rw [H.2.1] at z
      omega
    · rw [H.1.2.1, H.1.2.2.2.2.2.1]
      refine ⟨H.1.2.2.2.1, by omega, by omega, he.1, s4_writeInBrackets (e := elV h L i) (by omega) (by omega) he R (fun g f1 R1 => ⟨rfl, ⟨by omega, by omega⟩, ?_⟩)⟩
      refine ih (i + 1) g _ (by omega) (by simp only [List.length_append]; omega) (f1.lab H (by omega)) R1 (fun g2 f2 R2 => k g2 (f1.trans f2) ?_)
      rw [dropE (by omega)]
      simpa [brF] using R2
theorem s6_writeInBrackets {r cap : Nat} {l : List Int} (hd : r + 2 ≤ L ∨ L + 63 ≤ r) (hc : l.length + 186 * es.length ≤ cap) (H : isLab h L es) (R : isRow h r cap l) (k : ∀ h', jFI r (r + 2) h h' → isRow h' r cap (l ++ brF es) → Q (.inl none) h') : jCall (d + 3) mX6_writeInBrackets [jR L, jR r] h Q :=
  bX6_writeInBrackets (fun _ => s6_writeInBrackets_loop hd es.length 0 h l (by omega) hc H R k)
end M6
