/-! THE MODEL: AIs read, elements -/
/-- the place of the AI of dg digits at p -/
def aiR (t : List Int) (p dg : Int) : Int := if lnA t p dg = -1 then -1 else ixV (numOf (seg t p.toNat dg.toNat)) dg
theorem dig_snoc {t : List Int} {P k : Nat} (h : P + k < t.length) : digB t P (k + 1 : Nat) = (digB t P k && isD (t.getD (P + k) 0)) := by
  rw [Bool.eq_iff_iff, Bool.and_eq_true, digB_iff (by omega), digB_iff (by omega)]
  constructor
  · exact fun g => ⟨fun i hi => g i (by omega), g k (by omega)⟩
  · rintro ⟨g1, g2⟩ i hi
    by_cases e : i = k
    · rw [e]; exact g2
    · exact g1 i (by omega)
theorem num_snoc {t : List Int} {P k : Nat} (h : P + k < t.length) : numOf (seg t P (k + 1)) = 10 * numOf (seg t P k) + t.getD (P + k) 0 - 48 := by
  have e : seg t P (k + 1) = seg t P k ++ [t.getD (P + k) 0] := by
    unfold seg
    rw [List.take_succ, List.getElem?_drop, List.getElem?_eq_getElem h, List.getD_eq_getElem?_getD, List.getElem?_eq_getElem h]
    rfl
  unfold numOf
  rw [e, List.foldl_append]
  simp only [List.foldl_cons, List.foldl_nil]
  omega
theorem dig_len {t : List Int} {P k : Nat} (h : digB t P k = true) : P + k ≤ t.length := by
  unfold digB at h
  rw [Bool.and_eq_true, decide_eq_true_eq] at h
  omega
theorem dig_mono {t : List Int} {P k j : Nat} (h : digB t P j = true) (hk : k ≤ j) : digB t P k = true := by
  have l := dig_len h
  rw [digB_iff (by omega)] at h ⊢
  exact fun i hi => h i (by omega)
theorem lnA_no {t : List Int} {P j : Nat} (h : digB t P j = false) : lnA t P j = -1 := by
  unfold lnA
  split
  · rfl
  · rw [if_neg (by rw [h]; decide)]
theorem lnA_yes {t : List Int} {P j : Nat} (hj : j ≤ 4) (h : digB t P j = true) : lnA t P j = lineV (numOf (seg t P j)) j := by
  unfold lnA
  rw [if_neg (by omega), if_pos h, Int.toNat_natCast, Int.toNat_natCast]
theorem num_rg {t : List Int} {P k : Nat} (h : digB t P k = true) (hk : k ≤ 4) : 0 ≤ numOf (seg t P k) ∧ numOf (seg t P k) < 10000 := by
  have := numOf4 (t := t) (p := P) (dg := k) h (by omega)
  rw [Int.toNat_natCast, Int.toNat_natCast] at this
  exact this
theorem aiR_is {t : List Int} {P j : Nat} (h : lnA t P j ≠ -1) : aiR t P j = ixV (numOf (seg t P j)) j := by
  unfold aiR
  rw [if_neg h, Int.toNat_natCast, Int.toNat_natCast]
section ME
variable {d m : Nat} {h : jH} {Q : jO → jH → Prop} {t : List Int} {br : Bool}
theorem n_aiHere_loop {P : Nat} (ok : okT t) (H : mSh h m) (T : mTb h m) (X : mTx h m t br) (g5 : hI h 825 m = P) (hP : P ≤ t.length) (kk : Q (.inl (some (jI (aiR t P (plD t P))))) h) (n : Nat) : ∀ k : Nat, k + n = 4 → digB t P k = true → (2 ≤ k → lnA t P 2 = -1) → (3 ≤ k → lnA t P 3 = -1) → (4 ≤ k → lnA t P 4 = -1) → jWp (d + 1) mX11_aiHere 4 [(0, jR m), (1, jI (numOf (seg t P k))), (2, jI ((k : Int) + 1))] [] h Q := by
  have l6 := X.2.1
  have no : lnA t P 2 = -1 → lnA t P 3 = -1 → lnA t P 4 = -1 → Q (.inl (some (jI (-1)))) h := fun a2 a3 a4 => by
    unfold plD at kk
    rw [if_neg (fun q => q a2), if_neg (fun q => q a3)] at kk
    unfold aiR at kk
    rw [if_pos a4] at kk
    exact kk
  induction n with
  | zero =>
    intro k hk hd h2 h3 h4
    exact bX11_aiHere_4 (fun _ _ _ => ⟨fun _ => no (h2 (by omega)) (h3 (by omega)) (h4 (by omega)), fun z => by omega⟩)
  | succ n ih =>
    intro k hk hd h2 h3 h4
    have fail : digB t P (k + 1 : Nat) = false → Q (.inl (some (jI (-1)))) h := fun z => by
      have g : ∀ j : Nat, (j ≤ k → lnA t P j = -1) → lnA t P j = -1 := fun j hj => by
        by_cases c : j ≤ k
        · exact hj c
        · refine lnA_no ?_
          cases q : digB t P j with
          | false => rfl
          | true => rw [dig_mono q (show k + 1 ≤ j by omega)] at z; cases z
      exact no (g 2 (fun c => h2 c)) (g 3 (fun c => h3 c)) (g 4 (fun c => h4 c))
    have nr := num_rg hd (by omega)
    refine bX11_aiHere_4 (fun _ _ _ => ⟨fun z => by omega, fun z => ⟨H.k, ?_⟩⟩)
    rw [g5, X.1]
    refine fun _ => ⟨⟨by omega, by omega⟩, fun _ => ⟨fun z2 => fail ?_, fun z2 => ⟨⟨by omega, by omega⟩, ?_⟩⟩⟩
    · cases q : digB t P (k + 1 : Nat) with
      | false => rfl
      | true => have := dig_len q; omega
    · have hl : P + k < t.length := by omega
      have ea : lAt t ((P : Int) + ((k : Int) + 1) - 1) = t.getD (P + k) 0 := by
        rw [show (P : Int) + ((k : Int) + 1) - 1 = ((P + k : Nat) : Int) by omega, lAt_get hl]
      have sn := dig_snoc (t := t) (P := P) (k := k) hl
      rw [hd, Bool.true_and] at sn
      refine n_here (by omega) ok H X ⟨_, rfl, n_isDigit ⟨_, rfl, fun w => fail ?_, fun w => ⟨⟨by omega, by omega⟩, H.k, ?_⟩⟩⟩
      · rw [sn, ← ea]; exact (b2i_eq _).mp w
      · have w' := (b2i_ne _).mp w
        have c := isD_rg w'
        have hd1 : digB t P (k + 1 : Nat) = true := by rw [sn, ← ea]; exact w'
        have nr1 := num_rg hd1 (by omega)
        have ns := num_snoc (t := t) (P := P) (k := k) hl
        rw [g5]
        refine fun _ => ⟨⟨by omega, by omega⟩, ⟨by omega, by omega⟩, n_here (by omega) ok H X ⟨_, rfl, ⟨by omega, by omega⟩, ⟨by omega, by omega⟩, ?_⟩⟩
        rw [ea, ← ns]
        have e1 : (k : Int) + 1 + 1 = ((k + 1 : Nat) : Int) + 1 := by omega
        have ly := lnA_yes (t := t) (P := P) (j := k + 1) (by omega) hd1
        refine ⟨fun z3 => ⟨⟨by omega, by omega⟩, ?_⟩, fun z3 => ⟨H.k, n_aiOf H T ⟨_, rfl, fun z4 => ⟨⟨by omega, by omega⟩, ?_⟩, fun z4 => ?_⟩⟩⟩
        · rw [e1]
          exact ih (k + 1) (by omega) hd1 (fun q => by omega) (fun q => by omega) (fun q => by omega)
        · have l1 : lnA t P (k + 1 : Nat) = -1 := by
            rw [ly]
            by_cases c : lineV (numOf (seg t P (k + 1))) (k + 1 : Nat) = -1
            · exact c
            · have := tabX c
              rw [show (k : Int) + 1 = ((k + 1 : Nat) : Int) by omega] at z4
              omega
          rw [e1]
          refine ih (k + 1) (by omega) hd1 (fun q => ?_) (fun q => ?_) (fun q => ?_)
          · by_cases c : k + 1 = 2
            · rw [show ((k + 1 : Nat) : Int) = 2 by omega] at l1
              exact l1
            · exact h2 (by omega)
          · by_cases c : k + 1 = 3
            · rw [show ((k + 1 : Nat) : Int) = 3 by omega] at l1
              exact l1
            · exact h3 (by omega)
          · by_cases c : k + 1 = 4
            · rw [show ((k + 1 : Nat) : Int) = 4 by omega] at l1
              exact l1
            · exact h4 (by omega)
        · have l1 : lnA t P (k + 1 : Nat) ≠ -1 := by
            rw [ly]
            refine tabC ?_
            rw [show (k : Int) + 1 = ((k + 1 : Nat) : Int) by omega] at z4
            omega
          have pd : plD t P = ((k + 1 : Nat) : Int) := by
            unfold plD
            rcases (show k = 1 ∨ k = 2 ∨ k = 3 by omega) with e | e | e
            · subst e; rw [if_pos (show lnA t P 2 ≠ -1 from l1)]; rfl
            · subst e; rw [if_neg (fun q => q (h2 (by omega))), if_pos (show lnA t P 3 ≠ -1 from l1)]; rfl
            · subst e; rw [if_neg (fun q => q (h2 (by omega))), if_neg (fun q => q (h3 (by omega)))]; rfl
          rw [pd, aiR_is l1] at kk
          exact kk
theorem n_aiHere {P : Nat} (ok : okT t) (H : mSh h m) (T : mTb h m) (X : mTx h m t br) (g5 : hI h 825 m = P) (hP : P ≤ t.length) (kk : Q (.inl (some (jI (aiR t P (plD t P))))) h) : jCall (d + 1) mX11_aiHere [jR m] h Q := by
  refine bX11_aiHere (fun _ => ?_)
  have := n_aiHere_loop (d := d) ok H T X g5 hP kk 4 0 rfl ((digB_iff (by omega)).mpr (fun i hi => absurd hi (by omega))) (fun q => by omega) (fun q => by omega) (fun q => by omega)
  rw [seg_zero] at this
  exact this
theorem n_aiTo {P E : Nat} (ok : okT t) (H : mSh h m) (T : mTb h m) (X : mTx h m t br) (g5 : hI h 825 m = P) (hP : P ≤ E) (hE : E ≤ t.length) (kk : Q (.inl (some (jI (aiR t P ((E : Int) - P))))) h) : jCall (d + 1) mX11_aiTo [jR m, jI E] h Q := by
  have l6 := X.2.1
  obtain ⟨N, hN⟩ : ∃ N : Nat, (E : Int) - P = N := ⟨E - P, by omega⟩
  rw [hN] at kk
  have no : lnA t P N = -1 → Q (.inl (some (jI (-1)))) h := fun z => by unfold aiR at kk; rw [if_pos z] at kk; exact kk
  have loop : N ≤ 4 → 2 ≤ N → ∀ n k : Nat, k + n = N → digB t P k = true → jWp (d + 1) mX11_aiTo 27 [(0, jR m), (1, jI E), (2, jI N), (3, jI (numOf (seg t P k))), (4, jI ((P : Int) + k))] [] h Q := by
    intro n4 n2 n
    induction n with
    | zero =>
      intro k hk hd
      have ek : k = N := by omega
      subst ek
      refine bX11_aiTo_27 (fun _ _ _ _ _ => ⟨fun _ => ⟨H.k, n_aiOf H T ⟨_, rfl, ?_⟩⟩, fun z => by omega⟩)
      have ly := lnA_yes (t := t) (P := P) (j := k) n4 hd
      by_cases c : lnA t P k = -1
      · have := no c
        rw [ly] at c
        by_cases c2 : ixV (numOf (seg t P k)) k = -1
        · rw [c2]; exact this
        · exact absurd c (tabC c2)
      · rw [aiR_is c] at kk
        exact kk
    | succ n ih =>
      intro k hk hd
      have hl : P + k < t.length := by omega
      have ea : lAt t ((P : Int) + k) = t.getD (P + k) 0 := by
        rw [show (P : Int) + (k : Int) = ((P + k : Nat) : Int) by omega, lAt_get hl]
      have sn := dig_snoc (t := t) (P := P) (k := k) hl
      rw [hd, Bool.true_and] at sn
      have nr := num_rg hd (by omega)
      refine bX11_aiTo_27 (fun _ _ _ _ _ => ⟨fun z => by omega, fun z => ⟨H.k, n_here (by omega) ok H X ⟨_, rfl, n_isDigit ⟨_, rfl, fun w => ⟨⟨by omega, by omega⟩, H.k, n_here (by omega) ok H X ⟨_, rfl, ?_⟩⟩, fun w => no (lnA_no ?_)⟩⟩⟩⟩)
      · have w' := (b2i_ne _).mp w
        have c := isD_rg w'
        rw [ea] at w' c
        have hd1 : digB t P (k + 1 : Nat) = true := by rw [sn]; exact w'
        have nr1 := num_rg hd1 (by omega)
        have ns := num_snoc (t := t) (P := P) (k := k) hl
        rw [ea, ← ns, show (P : Int) + (k : Int) + 1 = (P : Int) + ((k + 1 : Nat) : Int) by omega]
        exact ⟨⟨by omega, by omega⟩, ⟨by omega, by omega⟩, ⟨by omega, by omega⟩, ih (k + 1) (by omega) hd1⟩
      · rw [ea] at w
        have w' := (b2i_eq _).mp w
        cases q : digB t P N with
        | false => rfl
        | true =>
          have := dig_mono q (show k + 1 ≤ N by omega)
          rw [sn, w'] at this
          cases this
  refine bX11_aiTo (fun _ _ => ⟨H.k, ?_⟩)
  rw [g5, hN]
  refine fun _ => ⟨⟨by omega, by omega⟩, fun z => no ?_, fun z => ⟨fun z2 => ?_, fun z2 => no ?_⟩⟩
  · by_cases c : lnA t P N = -1
    · exact c
    · have := lineV_dg (lnA_line c).2.2
      omega
  · have := loop (by omega) (by omega) N 0 (by omega) ((digB_iff (by omega)).mpr (fun i hi => absurd hi (by omega)))
    rw [seg_zero, show (P : Int) + ((0 : Nat) : Int) = P by omega] at this
    exact this
  · unfold lnA
    rw [if_pos (by omega)]
theorem n_close_loop {P : Nat} (ok : okT t) (H : mSh h m) (T : mTb h m) (X : mTx h m t true) (g5 : hI h 825 m = P) (n : Nat) : ∀ e : Nat, t.length ≤ e + n → P ≤ e → e ≤ t.length → (∀ E : Nat, clF t n e = E → E ≤ t.length → P ≤ E → jWp (d + 2) mX11_elements 154 [(0, jR m), (2, jI E)] [jI (aiR t P ((E : Int) - P))] h Q) → jWp (d + 2) mX11_elements 111 [(0, jR m), (2, jI e)] [] h Q := by
  have l6 := X.2.1
  induction n with
  | zero =>
    intro e hn hP he k
    refine bX11_elements_111 (fun _ _ => ⟨H.k, ?_⟩)
    rw [X.1, X.2.2.2]
    refine fun _ => ⟨fun z => fun _ => ⟨fun w => absurd w (by decide), fun _ => n_aiTo ok H T X g5 hP he ⟨_, rfl, k e rfl he hP⟩⟩, fun z => by omega⟩
  | succ n ih =>
    intro e hn hP he k
    unfold clF at k
    refine bX11_elements_111 (fun _ _ => ⟨H.k, ?_⟩)
    rw [X.1, X.2.2.2]
    refine fun _ => ⟨fun z => fun _ => ⟨fun w => absurd w (by decide), fun _ => n_aiTo ok H T X g5 hP he ⟨_, rfl, k e (by rw [if_pos z]) he hP⟩⟩, fun z => n_here (by omega) ok H X ⟨_, rfl, fun y => ⟨H.k, ?_⟩, fun y => ⟨⟨by omega, by omega⟩, ?_⟩⟩⟩
    · rw [X.2.2.2]
      exact fun _ => ⟨fun w => absurd w (by decide), fun _ => n_aiTo ok H T X g5 hP he ⟨_, rfl, k e (by rw [if_neg z, if_pos y]) he hP⟩⟩
    · rw [if_neg z, if_neg y] at k
      exact ih (e + 1) (by omega) (by omega) (by omega) k
/-! the elements -/
def rFr (m : Nat) (h h' : jH) : Prop := mFr m [823, 824, 825] [11, 12, 13, 14, 15, 18, 19] h h' ∧ mOth h h' m
theorem rFr.trans {h1 h2 : jH} (p : rFr m h h1) (q : rFr m h1 h2) : rFr m h h2 := ⟨p.1.trans q.1, p.2.trans q.2⟩
theorem vFr.r {e : Int} {h1 : jH} (p : vFr m e h h1) (he : 180 ≤ e) : rFr m h h1 := ⟨p.1.mono (by decide) (by decide), fun c gs h0 h9 L => L.to (p.1.a (by decide) c) (fun k hk => p.2 _ (by have := L.2.1; omega))⟩
theorem rFr.simple {fs as : List Nat} {h1 : jH} (f : mFr m fs as h h1) (hf : ∀ f ∈ fs, f ∈ [823, 824, 825]) (ha : ∀ a ∈ as, a ∈ [18, 19]) : rFr m h h1 := by
  have a2 : ∀ a ∈ as, a < 11 ∨ 15 < a := fun a hA => by
    have := ha a hA
    simp at this
    omega
  exact ⟨f.mono hf (fun a hA => by have := ha a hA; simp at this ⊢; omega), fun c gs _ _ L => f.lst L a2⟩
def mRd (h : jH) (m : Nat) (t : List Int) (br : Bool) (clk : Int) (es : List jE) (ps : List Int) (p : Int) : Prop := mSh h m ∧ mTb h m ∧ mTx h m t br ∧ hI h 825 m = p ∧ hI h 822 m = clk ∧ hA h (m + 11) 9 = es.length ∧ mPre h m es ∧ ∀ k : Nat, k < es.length → hA h (m + 19) (k : Int) = lAt ps k
theorem mRd.at {clk p : Int} {es : List jE} {ps : List Int} (S : mRd h m t br clk es ps p) (v : Int) : mRd (sI h 825 m v) m t br clk es ps v := by
  obtain ⟨q1, q2, q3, q4, q5, q6, q7, q8⟩ := S
  have f : mFr m [825] [] h (sI h 825 m v) := mFr.rfl.sI (by decide)
  exact ⟨f.sh q1, f.tb q2 (by decide), f.tx q3 (by decide), by rw [hI_sI, if_pos ⟨.refl _, .refl _⟩], (f.i (by decide)).trans q5, q6, fun k hk => (q7 k hk).to (f.same (by decide) _), q8⟩
theorem mRd.flt {clk p a b : Int} {es : List jE} {ps : List Int} (_S : mRd h m t br clk es ps p) : rFr m h (sI (sI h 823 m a) 824 m b) ∧ hI (sI (sI h 823 m a) 824 m b) 823 m = a ∧ hI (sI (sI h 823 m a) 824 m b) 824 m = b := by
  refine ⟨rFr.simple (fs := [823, 824]) (as := []) ((mFr.rfl.sI (by decide)).sI (by decide)) (by decide) (by decide), ?_, ?_⟩
  · rw [hI_sI, if_neg (by omega), hI_sI, if_pos ⟨.refl _, .refl _⟩]
  · rw [hI_sI, if_pos ⟨.refl _, .refl _⟩]
theorem lAt_app {l : List Int} {k : Nat} (v : Int) : (k < l.length → lAt (l ++ [v]) k = lAt l k) ∧ (k = l.length → lAt (l ++ [v]) k = v) := by
  refine ⟨fun hk => ?_, fun hk => ?_⟩
  · rw [lAt_get (by rw [List.length_append]; omega), lAt_get hk, app_getL _ _ _ hk]
  · subst hk
    rw [lAt_get (by simp)]
    simp
/-- behind an AI -/
theorem n_el_154 {clk : Int} {es : List jE} {ps : List Int} {P E : Nat} {dg np : Int} {asks : Bool} {f : Nat} {p : Int} (ok : okT t) (hc : 1950 ≤ clk ∧ clk ≤ 2200) (hes : es.length ≤ 20) (hps : ps.length = es.length) (S : mRd h m t br clk es ps P) (hP : P ≤ t.length) (hE : E ≤ t.length)
    (hb1 : br = true → np = (E : Int) + 1) (hb0 : br = false → np = P + dg) (hd : 0 ≤ dg)
    (hai : aiV t br p es.length = match aiN t P dg np es.length with | .inl x => .inl x | .inr x => if br = true ∧ t.length ≤ E then .inl (1, (E : Int)) else .inr x)
    (ih : ∀ (x : jE) (pa : Int) (p2 : Int) (h2 : jH), es.length < 20 → 0 ≤ p2 → p2 ≤ t.length → mRd h2 m t br clk (es ++ [x]) (ps ++ [pa]) p2 → (∀ h' es' a b, rtF t br clk asks f p2 (es ++ [x]) (ps ++ [pa]) = (es', some (a, b)) → rFr m h2 h' → hI h' 823 m = a → hI h' 824 m = b → Q (.inl (some (jI 0))) h') → (∀ h' es' ps', rtF t br clk asks f p2 (es ++ [x]) (ps ++ [pa]) = (es', jtF es' ps' asks es'.length 0) → rFr m h2 h' → hI h' 823 m = hI h2 823 m → hI h' 824 m = hI h2 824 m → mLst h' m 9 es' → (∀ k : Nat, k < es'.length → hA h' (m + 19) (k : Int) = lAt ps' k) → Q (.inl (some (jI 1))) h') → jWp (d + 3) mX11_elements 15 [(0, jR m), (1, jI 1)] [] h2 Q)
    (kf : ∀ h' es' a b, rtF t br clk asks (f + 1) p es ps = (es', some (a, b)) → rFr m h h' → hI h' 823 m = a → hI h' 824 m = b → Q (.inl (some (jI 0))) h')
    (kt : ∀ h' es' ps', rtF t br clk asks (f + 1) p es ps = (es', jtF es' ps' asks es'.length 0) → rFr m h h' → hI h' 823 m = hI h 823 m → hI h' 824 m = hI h 824 m → mLst h' m 9 es' → (∀ k : Nat, k < es'.length → hA h' (m + 19) (k : Int) = lAt ps' k) → Q (.inl (some (jI 1))) h') : jWp (d + 3) mX11_elements 154 [(0, jR m), (2, jI E)] [jI (aiR t P dg)] h Q := by
  obtain ⟨H, T, X, g5, g2, g9, PR, BG⟩ := id S
  have l6 := X.2.1
  unfold rtF at kf kt
  rw [hai] at kf kt
  unfold aiN at kf kt
  refine bX11_elements_154 (fun _ _ => ⟨fun z => ⟨H.k, ?_⟩, fun z => ⟨H.k, ?_⟩⟩)
  · have hA0 : lnA t P dg ≠ -1 := fun q => by unfold aiR at z; rw [if_pos q] at z; omega
    have al := lnA_line hA0
    have tx := tabX al.2.2
    have eR : aiR t P dg = ixV (numOf (seg t P dg.toNat)) dg := by unfold aiR; rw [if_neg hA0, Int.toNat_natCast]
    rw [Int.toNat_natCast] at al tx
    rw [if_neg hA0] at kf kt
    rw [H.r813, H.k813, H.n813, g9, g5, X.2.2.2, H.r828, H.k828, H.n828]
    refine ⟨.refl _, by decide, by decide, fun _ => ⟨fun n20 => ?_, fun e20 => ?_⟩⟩
    · rw [if_neg (by omega)] at kf kt
      simp only at kf kt
      have fB : mFr m [] [19] h (sA h (m + 19) es.length P) := mFr.rfl.sA (by decide)
      have rB := rFr.simple fB (by decide) (by decide)
      have S1 : mSh (sA h (m + 19) es.length P) m ∧ mTb (sA h (m + 19) es.length P) m ∧ mTx (sA h (m + 19) es.length P) m t br ∧ mPre (sA h (m + 19) es.length P) m es ∧ ∀ k : Nat, k < (es.length + 1) → hA (sA h (m + 19) es.length P) (m + 19) (k : Int) = lAt (ps ++ [(P : Int)]) k := by
        refine ⟨fB.sh H, fB.tb T (by decide), fB.tx X (by decide), fun k hk => (PR k hk).to (fB.same (by decide) _), fun k hk => ?_⟩
        rw [hA_sA]
        by_cases e : k = es.length
        · rw [if_pos ⟨.refl _, by omega⟩, (lAt_app _).2 (by omega)]
        · rw [if_neg (by omega), (lAt_app _).1 (by omega)]
          exact BG k (by omega)
      obtain ⟨H1, T1, X1, PR1, BG1⟩ := S1
      -- the value and what follows
      have go : ∀ q : Int, q = np → 0 ≤ q → q ≤ t.length → ¬ (br = true ∧ t.length ≤ E) → jWp (d + 3) mX11_elements 258 [(0, jR m), (3, jI (aiR t P dg))] [jI q, jR m] (sA h (m + 19) es.length P) Q := fun q eq q0 ql nb => by
        subst eq
        rw [if_neg nb] at kf kt
        simp only at kf kt
        have fA : mFr m [825] [] (sA h (m + 19) es.length P) (sI (sA h (m + 19) es.length P) 825 m q) := mFr.rfl.sI (by decide)
        have rA := rFr.simple fA (by decide) (by decide)
        have H2 := fA.sh H1
        refine bX11_elements_258 (fun _ _ => ⟨H1.k, H1.k, ?_⟩)
        rw [H1.r813, H1.k813, H1.n813, fB.a (by decide) 9, g9]
        refine ⟨.refl _, by decide, by decide, fun _ => ⟨⟨by omega, by omega⟩, ?_⟩⟩
        rw [eR]
        have r12 := rB.trans rA
        have o3 : ∀ g : Nat, g = 823 ∨ g = 824 → hI (sI (sA h (m + 19) es.length P) 825 m q) g m = hI h g m := fun g hg => by
          rw [hI_sI, if_neg (by omega)]; exact fB.i (by simp)
        refine n_value (e := 180 + es.length) (clk := clk) (br := br) ok (by omega) al.2.2 hc q0 ql H2 (fA.tb T1 (by decide)) (fA.tx X1 (by decide)) (by rw [hI_sI, if_pos ⟨.refl _, .refl _⟩]) ((fA.i (by decide)).trans ((fB.i (by decide)).trans g2)) (fun h3 x y rr f3 a1 a2 => ⟨_, rfl, fun w => absurd rfl w, fun _ => ?_⟩) (fun h3 rr f3 a1 a2 b1 b2 b3 E3 => ⟨_, rfl, fun _ => ⟨((f3.r (by omega)).1.sh H2).k, ?_⟩, fun w => absurd w (by decide)⟩)
        · rw [Int.toNat_natCast] at kf
          simp only [rr] at kf
          exact kf h3 _ x y rfl (r12.trans (f3.r (by omega))) a1 a2
        · have H3 := (f3.r (by omega)).1.sh H2
          rw [Int.toNat_natCast] at kf kt
          simp only [rr] at kf kt
          have c9 : hA h3 (m + 11) 9 = es.length := (f3.1.a (by decide) 9).trans ((fA.a (by decide) 9).trans ((fB.a (by decide) 9).trans g9))
          rw [H3.r813, H3.k813, H3.n813, c9, b1, (f3.1.i (by decide)).trans ((fA.i (by decide)).trans ((fB.i (by decide)).trans X.1))]
          generalize hx : ((numOf (seg t P dg.toNat), dg, (rvF t br clk (numOf (seg t P dg.toNat)) dg 4 0 [] q).1, clk) : jE) = x at *
          generalize (rvF t br clk (numOf (seg t P dg.toNat)) dg 4 0 [] q).2.1 = p2 at *
          have fC : mFr m [] [11] h3 (sA h3 (m + 11) 9 ((es.length : Int) + 1)) := mFr.rfl.sA (by decide)
          have rC : rFr m h3 (sA h3 (m + 11) 9 ((es.length : Int) + 1)) := ⟨fC.mono (by decide) (by decide), fun c gs h0 h9 L => L.to (by rw [hA_sA, if_neg (by omega)]) (fun k _ => fC.same (by decide) _)⟩
          have rT := r12.trans ((f3.r (by omega)).trans rC)
          have al1 : (es ++ [x]).length = es.length + 1 := by simp
          have S4 : mRd (sA h3 (m + 11) 9 ((es.length : Int) + 1)) m t br clk (es ++ [x]) (ps ++ [(P : Int)]) p2 := by
            refine ⟨fC.sh H3, fC.tb ((f3.1.tb (fA.tb T1 (by decide)) (by decide))) (by decide), fC.tx (f3.1.tx (fA.tx X1 (by decide)) (by decide)) (by decide), b1, ?_, ?_, fun k hk => ?_, fun k hk => ?_⟩
            · exact (fC.i (by decide)).trans ((f3.1.i (by decide)).trans ((fA.i (by decide)).trans ((fB.i (by decide)).trans g2)))
            · rw [hA_sA, if_pos ⟨.refl _, .refl _⟩, al1]; omega
            · rw [al1] at hk
              by_cases e : k = es.length
              · subst e
                have ex : (es ++ [x]).getD es.length dE = x := by simp
                rw [ex]
                exact E3.to (fC.same (by decide) _)
              · have ex : (es ++ [x]).getD k dE = es.getD k dE := by
                  rw [List.getD_eq_getElem?_getD, List.getElem?_append_left (by omega), ← List.getD_eq_getElem?_getD]
                rw [ex]
                exact (((PR1 k (by omega)).to (fA.same (by decide) _)).to (f3.2 _ (by omega))).to (fC.same (by decide) _)
            · rw [al1] at hk
              rw [fC.a (by decide), f3.1.a (by decide), fA.a (by decide)]
              exact BG1 k hk
          have n3 : hI (sA h3 (m + 11) 9 ((es.length : Int) + 1)) 823 m = hI h 823 m := a1.trans (o3 823 (Or.inl rfl))
          have n4 : hI (sA h3 (m + 11) 9 ((es.length : Int) + 1)) 824 m = hI h 824 m := a2.trans (o3 824 (Or.inr rfl))
          have c25 : hI (sA h3 (m + 11) 9 ((es.length : Int) + 1)) 825 m = p2 := b1
          refine ⟨.refl _, by decide, by decide, fun _ => ⟨⟨by omega, by omega⟩, fun _ _ => ⟨fun z3 => ?_, fun z3 => ?_⟩⟩⟩
          · rw [if_pos z3] at kt
            refine bX11_elements_309 (fun _ => ⟨fun _ => bX11_elements_344 (fun _ _ => bX11_elements_15 (fun _ _ => ⟨fun _ => ?_, fun w => absurd rfl w⟩)), fun w => absurd rfl w⟩)
            refine kt _ (es ++ [x]) (ps ++ [(P : Int)]) rfl rT n3 n4 ⟨by rw [S4.2.2.2.2.2.1], by omega, fun k hk => ?_⟩ S4.2.2.2.2.2.2.2
            rw [show (20 : Int) * 9 + k = 180 + k by omega]
            exact S4.2.2.2.2.2.2.1 k hk
          · rw [if_neg z3] at kf kt
            have fin : ∀ (p3 : Int) (h5 : jH), p3 = (if br = false ∧ lAt t p2 = 29 then p2 + 1 else p2) → 0 ≤ p3 → p3 ≤ t.length → mRd h5 m t br clk (es ++ [x]) (ps ++ [(P : Int)]) p3 → rFr m (sA h3 (m + 11) 9 ((es.length : Int) + 1)) h5 → hI h5 823 m = hI h 823 m → hI h5 824 m = hI h 824 m → jWp (d + 3) mX11_elements 344 [(0, jR m), (1, jI 1)] [] h5 Q := fun p3 h5 e3 p30 p3l S5 r5 m3 m4 => by
              subst e3
              exact bX11_elements_344 (fun _ _ => ih x P _ h5 (by omega) p30 p3l S5 (fun h' es' a b rr' r' a1' a2' => kf h' es' a b rr' (rT.trans (r5.trans r')) a1' a2') (fun h' es' ps' rr' r' a1' a2' L' B' => kt h' es' ps' rr' (rT.trans (r5.trans r')) (a1'.trans m3) (a2'.trans m4) L' B'))
            refine bX11_elements_309 (fun _ => ⟨fun w => absurd w (by decide), fun _ => ⟨S4.1.k, ?_⟩⟩)
            rw [S4.2.2.1.2.2.2, c25]
            refine fun _ => ⟨fun w => ?_, fun w => fun _ => ?_⟩
            · refine fin p2 _ ?_ b2 b3 S4 ⟨.rfl, .rfl⟩ n3 n4
              rw [if_neg (fun q => by rw [(b2i_ne _).mp w] at q; exact absurd q.1 (by decide))]
            · refine n_here b2 ok S4.1 S4.2.2.1 ⟨_, rfl, fun y => fin p2 _ ?_ b2 b3 S4 ⟨.rfl, .rfl⟩ n3 n4, fun y => ⟨S4.1.k, ?_⟩⟩
              · rw [if_neg (fun q => y q.2)]
              · rw [c25]
                have f5 : mFr m [825] [] (sA h3 (m + 11) 9 ((es.length : Int) + 1)) (sI (sA h3 (m + 11) 9 ((es.length : Int) + 1)) 825 m (p2 + 1)) := mFr.rfl.sI (by decide)
                refine fun _ => ⟨⟨by omega, by omega⟩, fin (p2 + 1) _ ?_ (by omega) (by omega) (S4.at _) (rFr.simple f5 (by decide) (by decide)) ((f5.i (by decide)).trans n3) ((f5.i (by decide)).trans n4)⟩
                rw [if_pos ⟨(b2i_eq _).mp w, y⟩]
      refine fun _ => ⟨.refl _, by omega, by omega, fun _ => ⟨fun w => ?_, fun w => ?_⟩⟩
      · have eb := (b2i_eq _).mp w
        refine bX11_elements_233 (fun _ _ _ => ⟨H1.k, ?_⟩)
        have e26 : hI (sA h (m + 19) es.length P) 826 m = b2i br := X1.2.2.2
        have e25 : hI (sA h (m + 19) es.length P) 825 m = P := (fB.i (by decide)).trans g5
        have tb1 := T1.2.2.1 (ixV (numOf (seg t P dg.toNat)) dg) tx.1 tx.2.1
        rw [e26, e25, H1.r802, H1.k802, H1.n802, eR, tb1.2.1, tx.2.2.2.1, ← eR]
        have dl : (P : Int) + dg ≤ t.length := by
          have := al.2.1
          unfold digB at this
          rw [Bool.and_eq_true, decide_eq_true_eq] at this
          omega
        refine fun _ => ⟨fun _ => fun _ => ⟨.refl _, by rw [eR]; exact tx.1, by rw [eR]; omega, fun _ => ⟨⟨by omega, by omega⟩, go _ (hb0 eb).symm (by omega) dl (fun q => by rw [eb] at q; exact absurd q.1 (by decide))⟩⟩, fun w2 => absurd w w2⟩
      · have eb := (b2i_ne _).mp w
        have e21 : hI (sA h (m + 19) es.length P) 821 m = t.length := X1.1
        rw [show hI h 821 m = t.length from X.1]
        refine fun _ => ⟨fun w2 => ?_, fun w2 => ?_⟩
        · refine bX11_elements_233 (fun _ _ _ => ⟨H1.k, ?_⟩)
          have e26 : hI (sA h (m + 19) es.length P) 826 m = b2i br := X1.2.2.2
          rw [e26]
          exact fun _ => ⟨fun w3 => absurd w3 w, fun _ => ⟨⟨by omega, by omega⟩, go _ (hb1 eb).symm (by omega) (by omega) (fun q => by omega)⟩⟩
        · rw [if_pos ⟨eb, by omega⟩] at kf
          simp only at kf
          have f0 : mFr m [823, 824] [19] h (sI (sI (sA h (m + 19) es.length P) 823 m 1) 824 m t.length) := ((mFr.rfl.sA (by decide)).sI (by decide)).sI (by decide)
          refine n_fault H1 ⟨_, rfl, by decide, kf _ es 1 E rfl (rFr.simple f0 (by decide) (by decide)) ?_ ?_⟩
          · rw [hI_sI, if_neg (by omega), hI_sI, if_pos ⟨.refl _, .refl _⟩]
          · rw [hI_sI, if_pos ⟨.refl _, .refl _⟩]; omega
    · rw [if_pos (by omega)] at kf
      simp only at kf
      have f0 := S.flt (a := 9) (b := P)
      exact fun _ => n_fault H ⟨_, rfl, by decide, kf _ es 9 P rfl f0.1 f0.2.1 f0.2.2⟩
  · have hA0 : lnA t P dg = -1 := by
      by_cases q : lnA t P dg = -1
      · exact q
      · have al := lnA_line q
        have tx := tabX al.2.2
        unfold aiR at z
        rw [if_neg q] at z
        omega
    rw [if_pos hA0] at kf
    simp only at kf
    rw [g5]
    have f0 := S.flt (a := 2) (b := P)
    exact fun _ => n_fault H ⟨_, rfl, by decide, kf _ es 2 P rfl f0.1 f0.2.1 f0.2.2⟩
end ME
