/-! THE PRESS: symbols, printing -/
theorem aiF_rg (a : Int) : ∀ (n : Nat) (u : Int), ∀ y ∈ aiF a n u, 48 ≤ y ∧ y ≤ 57
  | 0, _ => fun y hy => nomatch hy
  | n + 1, u => fun y hy => by
    rcases List.mem_cons.mp hy with e | e
    · rw [e]; omega
    · exact aiF_rg a n _ y e
theorem strF_ok {es : List jE} {f : Nat} (hb : ∀ y ∈ es, ∀ b ∈ y.2.2.1, 32 ≤ b ∧ b < 128) : ∀ n k, okB (strF es f n k)
  | 0, _ => fun y hy => nomatch hy
  | n + 1, k => fun y hy => by
    unfold strF at hy
    rcases List.mem_append.mp hy with e | e
    · split at e
      · exact Or.inl (List.mem_singleton.mp e)
      · cases e
    · rcases List.mem_append.mp e with e | e
      · have := aiF_rg _ _ _ y e
        exact Or.inr ⟨by omega, by omega⟩
      · rcases List.mem_append.mp e with e | e
        · by_cases hk : k < es.length
          · have h1 : es.getD k dE ∈ es := by
              rw [List.getD_eq_getElem?_getD, List.getElem?_eq_getElem hk]
              exact List.getElem_mem hk
            exact Or.inr (hb _ h1 y e)
          · rw [List.getD_eq_getElem?_getD, List.getElem?_eq_none (by omega)] at e
            cases e
        · exact strF_ok hb n (k + 1) y e
theorem strF_len {es : List jE} {f : Nat} (hd : ∀ k, 0 ≤ (es.getD k dE).2.1) : ∀ n k, ((strF es f n k).length : Int) = sumN (byV es f) n k
  | 0, _ => rfl
  | n + 1, k => by
    have ih := strF_len (f := f) hd n (k + 1)
    have h0 := hd k
    have ha : ((aiStr (es.getD k dE).1 (es.getD k dE).2.1).length : Int) = (es.getD k dE).2.1 := by
      unfold aiStr
      rw [aiF_len]
      omega
    have hs : (((if sepB es f k = true then [29] else ([] : List Int)).length : Nat) : Int) = b2i (sepB es f k) := by cases sepB es f k <;> rfl
    simp only [strF, sumN, byV, List.length_append, Int.natCast_add]
    rw [ih, ha, hs]
    omega
theorem seF_sum (es : List jE) (f : Nat) : ∀ (n i : Nat) (a : Int), a ≤ 48 → a + sumN (byV es f) (seF es f n i a - i) i ≤ 48
  | 0, i, a => fun h => by simp only [seF, Nat.sub_self, sumN]; omega
  | n + 1, i, a => fun h => by
    unfold seF
    split
    · rw [Nat.sub_self]; simp only [sumN]; omega
    · rename_i q
      have ih := seF_sum es f n (i + 1) (a + byV es f i) (by omega)
      have r := seF_rg es f n (i + 1) (a + byV es f i)
      have e : seF es f n (i + 1) (a + byV es f i) - i = (seF es f n (i + 1) (a + byV es f i) - (i + 1)) + 1 := by omega
      rw [e]
      simp only [sumN]
      omega
theorem seV_rg (es : List jE) {f : Nat} (hf : f ≤ es.length) : f ≤ seV es f ∧ seV es f ≤ es.length := by
  have := seF_rg es f (es.length - f) f 0
  unfold seV
  omega
def symStr (es : List jE) (k : Nat) : List Int := strF es k (seV es k - k) k
def symV (s : jP) (k : Nat) : Int × jP := if seV s.2.1.1 k = k then (-1, s) else (((seV s.2.1.1 k : Nat) : Int) - (k : Int), ((s.1.1, s.1.2.1, s.1.2.2.1, encV (symStr s.2.1.1 k)), s.2))
def prtL (sy : List Int) : List Int := List.replicate 10 0 ++ (sy.flatMap barV ++ List.replicate 10 0)
theorem barV_len (c : Int) : (barV c).length ≤ 13 := by
  unfold barV
  split
  · rw [bitsF_len]; omega
  · rw [bitsF_len]; omega
section U9
variable {d x : Nat} {h : jH} {Q : jO → jH → Prop} {s : jP}
theorem lp_symbol (H : isLP h x s) {h1 : jH} {l : List Int} (f : jFI (x + 9) (x + 11) h h1) (R : isRow h1 (x + 9) 100 l) : isLP h1 x ((s.1.1, s.1.2.1, s.1.2.2.1, l), s.2) := by
  obtain ⟨k0, k1, k2, k3, k4, k5, k6, k7, k8, k9, k10, k11, k12, k13, k14⟩ := H.keep f.fr
  exact ⟨k0 (by omega), k1 (by omega), k2 (by omega), k3 (by omega), k4 (by omega), k5 (by omega), R, k7 (by omega), k8 (by omega), k9 (by omega), k10 (by omega), k11 (by omega), k12 (by omega), k13 (by omega), k14 (by omega)⟩
theorem lp_enc (H : isLP h x s) {h1 : jH} {q : Nat} (f : jFr (x + 710) (x + 713) h h1) (E : isEnc h1 (x + 710) q) : isLP h1 x s := by
  obtain ⟨k0, k1, k2, k3, k4, k5, k6, k7, k8, k9, k10, k11, k12, k13, k14⟩ := H.keep f
  exact ⟨k0 (by omega), k1 (by omega), k2 (by omega), k3 (by omega), k4 (by omega), k5 (by omega), k6 (by omega), k7 (by omega), k8 (by omega), k9 (by omega), k10 (by omega), k11 (by omega), ⟨q, E⟩, k13 (by omega), k14 (by omega)⟩
theorem u_symbol {i : Int} (hb : ∀ y ∈ s.2.1.1, ∀ b ∈ y.2.2.1, 32 ≤ b ∧ b < 128) (H : isLP h x s) (k0 : (i < 0 ∨ s.2.1.1.length ≤ i) → Q (.inr "java/lang/IndexOutOfBoundsException") (sN h 16 0 6)) (k1 : 0 ≤ i → i < s.2.1.1.length → ∀ h', jFr x (x + 724) h h' → isLP h' x (symV s i.toNat).2 → Q (.inl (some (jI (symV s i.toNat).1))) h') : jCall (d + 7) mX10_symbol [jR x, jI i] h Q := by
  have L := H.2.2.2.2.2.2.2.1
  refine bX10_symbol (d := d + 6) (fun _ _ => ⟨H.1.1, u_elementAt H (fun z => Or.inr ⟨_, rfl, k0 z⟩) (fun z z2 => Or.inl ⟨_, rfl, H.1.1, ?_⟩)⟩)
  replace k1 := k1 z z2
  rw [H.1.2.2.2.2.2.2.1]
  have l20 := L.2.2.1
  obtain ⟨n, rfl⟩ := Int.eq_ofNat_of_zero_le z
  rw [Int.toNat_natCast] at k1
  have sr := seV_rg s.2.1.1 (f := n) (by omega)
  have hdg : ∀ k, 0 ≤ (s.2.1.1.getD k dE).2.1 := fun k => by
    by_cases hk : k < s.2.1.1.length
    · have := (L.elr hk).1; omega
    · rw [List.getD_eq_getElem?_getD, List.getElem?_eq_none (by omega)]; decide
  have hlen : (symStr s.2.1.1 n).length ≤ 48 := by
    have e1 := strF_len (f := n) hdg (seV s.2.1.1 n - n) n
    have e2 := seF_sum s.2.1.1 n (s.2.1.1.length - n) n 0 (by decide)
    unfold symStr
    unfold seV at e1 ⊢
    omega
  unfold symV at k1
  refine ⟨L.1.1, s6_symbolEnd (d := d + 3) L (by omega) ⟨_, rfl, fun e => ⟨H.1.1, ?_⟩, fun e => ?_⟩⟩
  · rw [if_neg (fun w => e (by rw [w]))] at k1
    obtain ⟨l0, R0⟩ := H.2.2.2.2.2.1
    rw [H.1.2.2.2.2.1]
    refine ⟨R0.1, s7_clear R0 (fun h1 f1 R1 => ⟨rfl, ?_⟩)⟩
    have H1 := lp_string H f1 R1
    have L1 := H1.2.2.2.2.2.2.2.1
    refine ⟨H1.1.1, ?_⟩
    rw [H1.1.2.2.2.2.2.2.1, H1.1.2.2.2.2.1]
    refine ⟨L1.1.1, s6_writeString (d := d + 3) sr.1 sr.2 (by omega) (by simp; omega) L1 R1 (fun h2 f2 R2 => ⟨rfl, ?_⟩)⟩
    rw [List.nil_append] at R2
    have H2 := lp_string H1 f2 R2
    refine ⟨H2.1.1, ?_⟩
    rw [H2.1.2.2.2.2.2.2.2.2.2.2.1, H2.1.2.2.2.2.1, H2.1.2.2.2.2.2.1]
    obtain ⟨q0, E0⟩ := H2.2.2.2.2.2.2.2.2.2.2.2.2.1
    refine ⟨E0.1, s5_encode (d := d + 2) (by omega) (by omega) (by omega) hlen (strF_ok hb _ _) E0 R2 H2.2.2.2.2.2.2.1 (fun h3 h4 f3 f4 E4 Y4 => ⟨rfl, ⟨by omega, by omega⟩, ?_⟩)⟩
    have E3 : isEnc h3 (x + 710) (x + 7) := by
      have g4 : jFI (x + 9) (x + 11) h4 h3 := by
        obtain ⟨p1, p2, p3, p4, p5, p6, p7⟩ := f4
        exact ⟨p1.symm, p2.symm, p3.symm, p4.symm, p5.symm, p6.symm, fun o ho => ⟨fun f => ((p7 o ho).1 f).symm, fun i => ((p7 o ho).2 i).symm⟩⟩
      exact g4.fr.enc E4 (by omega)
    have H3 := lp_enc H2 f3 E3
    have H4 := lp_symbol H3 f4 Y4
    exact k1 h4 (((f1.trans f2).fr.mono (by omega) (by omega)).trans ((f3.mono (by omega) (by omega)).trans (f4.fr.mono (by omega) (by omega)))) H4
  · rw [if_pos (by omega)] at k1
    exact k1 h .rfl H
theorem u_spaces_loop (n : Nat) : ∀ (i : Nat) (h : jH) (l : List Int), i + n = 10 → l.length + n ≤ 2000 → isLP h x ((s.1.1, s.1.2.1, l, s.1.2.2.2), s.2) → (∀ h', jFI (x + 5) (x + 7) h h' → isLP h' x ((s.1.1, s.1.2.1, l ++ List.replicate n 0, s.1.2.2.2), s.2) → Q (.inl none) h') → jWp (d + 1) mX10_putSpaces 2 [(0, jR x), (1, jI i)] [] h Q := by
  induction n with
  | zero =>
    intro i h l hi hl H k
    refine bX10_putSpaces_2 (fun _ _ => ⟨fun _ => ?_, fun w => absurd (by omega) w⟩)
    exact k h .rfl (by simpa using H)
  | succ n ih =>
    intro i h l hi hl H k
    refine bX10_putSpaces_2 (fun _ _ => ⟨fun w => absurd w (by omega), fun _ => ⟨H.1.1, ?_⟩⟩)
    rw [H.1.2.2.2.1]
    refine ⟨H.2.2.2.2.1.1, s7_put H.2.2.2.2.1 (fun h1 f1 R1 => ⟨rfl, ⟨by omega, by omega⟩, ?_⟩)⟩
    rw [lput_app (show l.length < 2000 by omega)] at R1
    have H1 := lp_strip H f1 R1
    refine ih (i + 1) h1 (l ++ [0]) (by omega) (by simp; omega) H1 (fun h2 f2 H2 => k h2 (f1.trans f2) ?_)
    have e : l ++ [0] ++ List.replicate n 0 = l ++ List.replicate (n + 1) (0 : Int) := by simp [List.replicate_succ]
    rw [e] at H2
    exact H2
theorem u_putSpaces {l : List Int} (hl : l.length + 10 ≤ 2000) (H : isLP h x ((s.1.1, s.1.2.1, l, s.1.2.2.2), s.2)) (k : ∀ h', jFI (x + 5) (x + 7) h h' → isLP h' x ((s.1.1, s.1.2.1, l ++ List.replicate 10 0, s.1.2.2.2), s.2) → Q (.inl none) h') : jCall (d + 1) mX10_putSpaces [jR x] h Q :=
  bX10_putSpaces (fun _ => u_spaces_loop 10 0 h l (by decide) hl H k)
theorem u_print_loop (n : Nat) : ∀ (i : Nat) (h : jH) (l : List Int), i + n = s.1.2.2.2.length → l.length + 13 * n + 10 ≤ 2000 → isLP h x ((s.1.1, s.1.2.1, l, s.1.2.2.2), s.2) → (∀ h', jFI (x + 5) (x + 7) h h' → isLP h' x ((s.1.1, s.1.2.1, l ++ ((s.1.2.2.2.drop i).flatMap barV ++ List.replicate 10 0), s.1.2.2.2), s.2) → Q (.inl (some (jI (l ++ ((s.1.2.2.2.drop i).flatMap barV ++ List.replicate 10 0)).length))) h') → jWp (d + 6) mX10_print 34 [(0, jR x), (1, jI i)] [] h Q := by
  induction n with
  | zero =>
    intro i h l hi hl H k
    refine bX10_print_34 (fun _ _ => ⟨H.1.1, ?_⟩)
    rw [H.1.2.2.2.2.2.1]
    refine ⟨H.2.2.2.2.2.2.1.1, s7_count H.2.2.2.2.2.2.1 ⟨_, rfl, fun _ => ⟨H.1.1, u_putSpaces (by omega) H (fun h1 f1 H1 => ⟨rfl, H1.1.1, ?_⟩)⟩, fun w => absurd (show (s.1.2.2.2.length : Int) ≤ i by omega) w⟩⟩
    rw [H1.1.2.2.2.1]
    rw [List.drop_of_length_le (by omega)] at k
    exact ⟨H1.2.2.2.2.1.1, s7_count H1.2.2.2.2.1 ⟨_, rfl, k h1 f1 (by simpa using H1)⟩⟩
  | succ n ih =>
    intro i h l hi hl H k
    have ls : s.1.2.2.2.length ≤ 100 := H.2.2.2.2.2.2.1.2.2.2.2.2.1
    refine bX10_print_34 (fun _ _ => ⟨H.1.1, ?_⟩)
    rw [H.1.2.2.2.2.2.1]
    refine ⟨H.2.2.2.2.2.2.1.1, s7_count H.2.2.2.2.2.2.1 ⟨_, rfl, fun w => absurd (show (s.1.2.2.2.length : Int) ≤ i from w) (by omega), fun _ => ⟨H.1.1, ?_⟩⟩⟩
    rw [H.1.2.2.2.2.2.1]
    refine ⟨H.2.2.2.2.2.2.1.1, s7_at H.2.2.2.2.2.2.1 ⟨_, rfl, ?_⟩⟩
    rw [H.1.2.2.2.2.2.2.2.2.2.2.2.1, H.1.2.2.2.1]
    refine ⟨H.2.2.2.2.2.2.2.2.2.2.2.2.2.1.1, s1_put (d := d + 4) H.2.2.2.2.2.2.2.2.2.2.2.2.2.1 H.2.2.2.2.1 (by show l.length + 13 ≤ 2000; omega) (fun h1 f1 R1 => ⟨rfl, ⟨by omega, by omega⟩, ?_⟩)⟩
    have H1 := lp_strip H f1 R1
    have bl := barV_len (lAt s.1.2.2.2 i)
    have ec : lAt s.1.2.2.2 i = s.1.2.2.2.getD i 0 := lAt_get (by omega)
    have ed : s.1.2.2.2.drop i = s.1.2.2.2.getD i 0 :: s.1.2.2.2.drop (i + 1) := by
      rw [List.drop_eq_getElem_cons (show i < s.1.2.2.2.length by omega), List.getD_eq_getElem?_getD, List.getElem?_eq_getElem (by omega)]
      rfl
    refine ih (i + 1) h1 (l ++ barV (lAt s.1.2.2.2 i)) (by omega) (by rw [List.length_append]; omega) H1 (fun h2 f2 H2 => ?_)
    have e : l ++ barV (lAt s.1.2.2.2 i) ++ ((s.1.2.2.2.drop (i + 1)).flatMap barV ++ List.replicate 10 0) = l ++ ((s.1.2.2.2.drop i).flatMap barV ++ List.replicate 10 0) := by
      rw [ed, ec]; simp
    rw [e] at H2 ⊢
    exact k h2 (f1.trans f2) H2
theorem u_print (H : isLP h x s) (k0 : s.1.2.2.2 = [] → Q (.inr "java/lang/IllegalStateException") (sN h 16 0 6)) (k1 : s.1.2.2.2 ≠ [] → ∀ h', jFI (x + 5) (x + 7) h h' → isLP h' x ((s.1.1, s.1.2.1, prtL s.1.2.2.2, s.1.2.2.2), s.2) → Q (.inl (some (jI (prtL s.1.2.2.2).length))) h') : jCall (d + 6) mX10_print [jR x] h Q := by
  have yl := H.2.2.2.2.2.2.1.2.2.2.2.2.1
  refine bX10_print (fun _ => ⟨H.1.1, ?_⟩)
  rw [H.1.2.2.2.2.2.1]
  refine ⟨H.2.2.2.2.2.2.1.1, s7_count H.2.2.2.2.2.2.1 ⟨_, rfl, fun w => ⟨H.1.1, ?_⟩, fun w => k0 (List.eq_nil_of_length_eq_zero (by omega))⟩⟩
  have ne : s.1.2.2.2 ≠ [] := fun z => w (by rw [z]; rfl)
  rw [H.1.2.2.2.1]
  refine ⟨H.2.2.2.2.1.1, s7_clear H.2.2.2.2.1 (fun h1 f1 R1 => ⟨rfl, ?_⟩)⟩
  have H1 := lp_strip H f1 R1
  refine ⟨H1.1.1, u_putSpaces (by decide) H1 (fun h2 f2 H2 => ⟨rfl, ?_⟩)⟩
  refine u_print_loop s.1.2.2.2.length 0 h2 _ (by omega) (by simp; omega) H2 (fun h3 f3 H3 => ?_)
  rw [List.drop_zero] at H3 ⊢
  exact k1 ne h3 ((f1.trans f2).trans f3) (by simpa [prtL] using H3)
end U9
