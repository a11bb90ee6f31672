/-! THE MODEL: a text read -/
section MT5
variable {d m : Nat} {h : jH} {Q : jO → jH → Prop} {t : List Int} {br : Bool} {s : jP}
theorem n_elements_loop {clk : Int} {asks : Bool} (ok : okT t) (hc : 1950 ≤ clk ∧ clk ≤ 2200) (f : Nat) : ∀ (es : List jE) (ps : List Int) (P : Nat) (h : jH), es.length + f = 21 → es.length ≤ 20 → ps.length = es.length → P ≤ t.length → mRd h m t br clk es ps P → (∀ h' es' a b, rtF t br clk asks f P es ps = (es', some (a, b)) → rFr m h h' → hI h' 823 m = a → hI h' 824 m = b → Q (.inl (some (jI 0))) h') → (∀ h' es' ps', rtF t br clk asks f P es ps = (es', jtF es' ps' asks es'.length 0) → rFr m h h' → hI h' 823 m = hI h 823 m → hI h' 824 m = hI h 824 m → mLst h' m 9 es' → (∀ k : Nat, k < es'.length → hA h' (m + 19) (k : Int) = lAt ps' k) → Q (.inl (some (jI 1))) h') → jWp (d + 3) mX11_elements 15 [(0, jR m), (1, jI 1)] [] h Q := by
  induction f with
  | zero => intro es ps P h h1 h2; omega
  | succ f ih =>
    intro es ps P h h1 h2 h3 hP S kf kt
    obtain ⟨H, T, X, g5, g2, g9, PR, BG⟩ := id S
    have l6 := X.2.1
    have rcr : ∀ (x : jE) (pa : Int) (p2 : Int) (h2 : jH), es.length < 20 → 0 ≤ p2 → p2 ≤ t.length → mRd h2 m t br clk (es ++ [x]) (ps ++ [pa]) p2 → (∀ h' es' a b, rtF t br clk asks f p2 (es ++ [x]) (ps ++ [pa]) = (es', some (a, b)) → rFr m h2 h' → hI h' 823 m = a → hI h' 824 m = b → Q (.inl (some (jI 0))) h') → (∀ h' es' ps', rtF t br clk asks f p2 (es ++ [x]) (ps ++ [pa]) = (es', jtF es' ps' asks es'.length 0) → rFr m h2 h' → hI h' 823 m = hI h2 823 m → hI h' 824 m = hI h2 824 m → mLst h' m 9 es' → (∀ k : Nat, k < es'.length → hA h' (m + 19) (k : Int) = lAt ps' k) → Q (.inl (some (jI 1))) h') → jWp (d + 3) mX11_elements 15 [(0, jR m), (1, jI 1)] [] h2 Q := fun x pa p2 h2' l20 p0 pl S' kf' kt' => by
      obtain ⟨P2, rfl⟩ : ∃ P2 : Nat, p2 = P2 := ⟨p2.toNat, by omega⟩
      exact ih (es ++ [x]) (ps ++ [pa]) P2 h2' (by simp; omega) (by simp; omega) (by simp; omega) (by omega) S' kf' kt'
    have f1 := fun (b : Int) => S.flt (a := 1) (b := b)
    refine bX11_elements_15 (fun _ _ => ⟨fun z => absurd z (by decide), fun _ => ⟨H.k, ?_⟩⟩)
    rw [g5, X.1, X.2.2.2]
    refine fun _ _ => ⟨fun ne _ => ⟨fun b0 => ⟨fun _ => n_aiHere ok H T X g5 hP ⟨_, rfl, ?_⟩, fun w => absurd b0 w⟩, fun b1 => n_here (by omega) ok H X ⟨_, rfl, fun e40 => ⟨H.k, ?_⟩, fun n40 => ⟨H.k, ?_⟩⟩⟩, fun eq => ?_⟩
    · have eb := (b2i_eq _).mp b0
      have pl : 0 ≤ plD t P := by unfold plD; split <;> (try split) <;> decide
      refine n_el_154 (np := P + plD t P) ok hc h2 h3 S hP hP (fun q => by rw [eb] at q; cases q) (fun _ => rfl) pl ?_ rcr kf kt
      have e1 : aiV t br P es.length = aiN t P (plD t P) (P + plD t P) es.length := by
        unfold aiV aiP
        rw [if_neg (by rw [eb]; decide), if_neg (by omega)]
      rw [e1]
      cases aiN t P (plD t P) (P + plD t P) es.length with
      | inl x => rfl
      | inr x => simp [eb]
    · have eb := (b2i_ne _).mp b1
      subst eb
      rw [g5]
      have f5 : mFr m [825] [] h (sI h 825 m ((P : Int) + 1)) := mFr.rfl.sI (by decide)
      have r5 := rFr.simple f5 (by decide) (by decide)
      have S1 := S.at ((P : Int) + 1)
      have e25 : hI (sI h 825 m ((P : Int) + 1)) 825 m = P + 1 := S1.2.2.2.1
      have e21 : hI (sI h 825 m ((P : Int) + 1)) 821 m = t.length := S1.2.2.1.1
      rw [e25, e21]
      refine fun _ => ⟨⟨by omega, by omega⟩, fun _ _ => ⟨fun ne2 => ?_, fun eq2 => ?_⟩⟩
      · rw [show (P : Int) + 1 = ((P + 1 : Nat) : Int) by omega] at S1 f5 r5 e25 ⊢
        refine n_close_loop (d := d + 1) (P := P + 1) ok S1.1 S1.2.1 S1.2.2.1 e25 t.length (P + 1) (by omega) (Nat.le_refl _) (by omega) (fun E hE hEl hPE => ?_)
        refine n_el_154 (p := P) (P := P + 1) (E := E) (np := (E : Int) + 1) (dg := (E : Int) - ((P + 1 : Nat) : Int)) ok hc h2 h3 S1 (by omega) hEl (fun _ => rfl) (fun q => by cases q) (by omega) ?_ rcr (fun h' es' a b r f g1 g2 => kf h' es' a b r (r5.trans f) g1 g2) (fun h' es' ps' r f g1 g2 L B => kt h' es' ps' r (r5.trans f) (g1.trans (f5.i (by decide))) (g2.trans (f5.i (by decide))) L B)
        have e1 : aiV t true P es.length = aiB t P es.length := if_pos rfl
        rw [e1]
        unfold aiB
        rw [if_neg (fun q => q e40), if_neg (by omega), show (P : Int) + 1 = ((P + 1 : Nat) : Int) by omega, hE]
        cases aiN t ((P + 1 : Nat) : Int) ((E : Int) - ((P + 1 : Nat) : Int)) ((E : Int) + 1) es.length with
        | inl x => rfl
        | inr x =>
          by_cases c : t.length ≤ E
          · simp [c]
          · simp [c]
      · have f0 : mFr m [823, 824, 825] [] h (sI (sI (sI h 825 m ((P : Int) + 1)) 823 m 1) 824 m t.length) := ((mFr.rfl.sI (by decide)).sI (by decide)).sI (by decide)
        refine n_fault S1.1 ⟨_, rfl, by decide, kf _ es 1 (P + 1) ?_ (rFr.simple f0 (by decide) (by decide)) ?_ ?_⟩
        · unfold rtF aiV aiB
          rw [if_pos rfl, if_neg (fun q => q e40), if_pos (by omega)]
        · rw [hI_sI, if_neg (by omega), hI_sI, if_pos ⟨.refl _, .refl _⟩]
        · rw [hI_sI, if_pos ⟨.refl _, .refl _⟩]; omega
    · have eb := (b2i_ne _).mp b1
      rw [g5]
      refine fun _ => n_fault H ⟨_, rfl, by decide, kf _ es 1 P ?_ (f1 P).1 (f1 P).2.1 (f1 P).2.2⟩
      unfold rtF aiV aiB
      rw [if_pos eb, if_pos n40]
    · refine n_fault H ⟨_, rfl, by decide, kf _ es 1 P ?_ (f1 t.length).1 (f1 t.length).2.1 ((f1 t.length).2.2.trans eq.symm)⟩
      unfold rtF aiV aiB aiP
      by_cases eb : br = true
      · rw [if_pos eb, if_pos (by rw [(ok.at P).2.1 (by omega)]; decide)]
      · rw [if_neg eb, if_pos (by omega)]
theorem n_together_loop {es : List jE} {ps : List Int} {asks : Bool} (H : mSh h m) (T : mTb h m) (L : mLst h m 9 es) (B : ∀ k : Nat, k < es.length → hA h (m + 19) (k : Int) = lAt ps k) (n : Nat) : ∀ k : Nat, k + n = es.length → (jtF es ps asks n k = none → Q (.inl (some (jI 1))) h) → (∀ a b, jtF es ps asks n k = some (a, b) → Q (.inl (some (jI 0))) (sI (sI h 823 m a) 824 m b)) → jWp (d + 3) mX11_together 2 [(0, jR m), (1, jI (b2i asks)), (2, jI k)] [] h Q := by
  have l20 := L.2.1
  induction n with
  | zero =>
    intro k hk k1 k0
    refine bX11_together_2 (fun _ _ _ => ⟨H.k, ?_⟩)
    rw [H.r813, H.k813, H.n813, L.1]
    exact ⟨.refl _, by decide, by decide, fun _ => ⟨fun _ => k1 rfl, fun z => by omega⟩⟩
  | succ n ih =>
    intro k hk k1 k0
    have E := L.2.2 k (by omega)
    rw [show (20 : Int) * 9 + k = 180 + k by omega] at E
    have mw := metW_eq (es := es) (k := k) (by omega) E.1
    unfold jtF at k1 k0
    refine bX11_together_2 (fun _ _ _ => ⟨H.k, ?_⟩)
    rw [H.r813, H.k813, H.n813, L.1]
    refine ⟨.refl _, by decide, by decide, fun _ => ⟨fun z => by omega, fun z => n_isTwice H T L (by decide) (by omega) ⟨_, rfl, fun w => ?_, fun w => ⟨H.k, ?_⟩⟩⟩⟩
    · have w' := (b2i_eq _).mp w
      rw [if_neg (by rw [w']; decide)] at k1 k0
      refine ⟨fun a0 => ⟨⟨by omega, by omega⟩, ?_⟩, fun a1 => ⟨H.k, ⟨by omega, by omega⟩, ?_⟩⟩
      · have ea := (b2i_eq _).mp a0
        rw [if_neg (fun q => by rw [ea] at q; exact absurd q.1 (by decide))] at k1 k0
        exact ih (k + 1) (by omega) k1 k0
      · have ea := (b2i_ne _).mp a1
        rw [H.r814, H.k814, H.n814]
        refine ⟨.refl _, by omega, by omega, fun _ => n_wants H T L (by decide) E ⟨_, rfl, fun v => ⟨⟨by omega, by omega⟩, ?_⟩, fun v => ⟨H.k, ?_⟩⟩⟩
        · rw [← mw] at v
          have v' := (b2i_ne _).mp v
          rw [if_neg (fun q => by rw [v'] at q; exact absurd q.2 (by decide))] at k1 k0
          exact ih (k + 1) (by omega) k1 k0
        · rw [← mw] at v
          have v' := (b2i_eq _).mp v
          rw [if_pos ⟨ea, v'⟩] at k0
          rw [H.r828, H.k828, H.n828, B k (by omega)]
          exact ⟨.refl _, by omega, by omega, fun _ => n_fault H ⟨_, rfl, by decide, k0 8 _ rfl⟩⟩
    · have w' := (b2i_ne _).mp w
      rw [if_pos w'] at k0
      rw [H.r828, H.k828, H.n828, B k (by omega)]
      exact ⟨.refl _, by omega, by omega, fun _ => n_fault H ⟨_, rfl, by decide, k0 7 _ rfl⟩⟩
/-- the state after a text -/
theorem v_taken {asks : Bool} (ok : okT t) (hc : 1950 ≤ s.2.2.1.1 ∧ s.2.2.1.1 ≤ 2200) (M : isMD h m (s.1, s.2.1, (s.2.2.1.1, 0, -1), s.2.2.2)) (X1 : hI h 821 m = t.length) (X2 : t.length ≤ 600) (X3 : ∀ i : Nat, i < t.length → hA h (m + 17) (i : Int) = sb (t.getD i 0)) (k : ∀ h', mFr m [823, 824, 825, 826] [11, 12, 13, 14, 15, 18, 19] h h' → isMD h' m (accV s (rtF t br s.2.2.1.1 asks 21 0 [] [])).2 → Q (.inl (some (jI (accV s (rtF t br s.2.2.1.1 asks 21 0 [] [])).1))) h') : jCall (d + 4) mX11_taken [jR m, jI (b2i br), jI (b2i asks)] h Q := by
  have f1 : mFr m [826] [] h (sI h 826 m (b2i br)) := mFr.rfl.sI (by decide)
  have H1 := f1.sh M.1
  have T1 := f1.tb M.2.1 (by decide)
  have TX : mTx (sI h 826 m (b2i br)) m t br := ⟨(f1.i (by decide)).trans X1, X2, X3, by rw [hI_sI, if_pos ⟨.refl _, .refl _⟩]⟩
  have fl := M.2.2.2.2.2.2.2.1
  refine bX11_taken (fun _ _ _ => ⟨M.1.k, b2i_rg br, bX11_elements (fun _ => ⟨H1.k, ?_⟩)⟩)
  rw [H1.r813, H1.k813, H1.n813]
  refine ⟨.refl _, by decide, by decide, ?_⟩
  have f2 : mFr m [825] [11] (sI h 826 m (b2i br)) (sA (sI (sI h 826 m (b2i br)) 825 m 0) (m + 11) 9 0) := (mFr.rfl.sI (by decide)).sA (by decide)
  have o2 : mOth (sI h 826 m (b2i br)) (sA (sI (sI h 826 m (b2i br)) 825 m 0) (m + 11) 9 0) m := fun c gs h0 h9 L => L.to (by rw [hA_sA, if_neg (by omega), hA_sI]) (fun j _ => f2.same (by decide) _)
  have S : mRd (sA (sI (sI h 826 m (b2i br)) 825 m 0) (m + 11) 9 0) m t br s.2.2.1.1 [] [] ((0 : Nat) : Int) := by
    refine ⟨f2.sh H1, f2.tb T1 (by decide), f2.tx TX (by decide), ?_, (f2.i (by decide)).trans ((f1.i (by decide)).trans fl.1), ?_, fun j hj => absurd hj (by simp), fun j hj => absurd hj (by simp)⟩
    · rw [hI_sA, hI_sI, if_pos ⟨.refl _, .refl _⟩]; rfl
    · rw [hA_sA, if_pos ⟨.refl _, .refl _⟩]; rfl
  have e3 : ∀ g : Nat, g = 823 ∨ g = 824 → hI (sA (sI (sI h 826 m (b2i br)) 825 m 0) (m + 11) 9 0) g m = hI h g m := fun g hg => by
    rw [hI_sA, hI_sI, if_neg (by omega), hI_sI, if_neg (by omega)]
  have fB : mFr m [823, 824, 825, 826] [11, 12, 13, 14, 15, 18, 19] h (sA (sI (sI h 826 m (b2i br)) 825 m 0) (m + 11) 9 0) := (f1.mono (by decide) (by decide)).trans (f2.mono (by decide) (by decide))
  have oB : mOth h (sA (sI (sI h 826 m (b2i br)) 825 m 0) (m + 11) 9 0) m := fun c gs h0 h9 L => o2 c gs h0 h9 (f1.lst L (by decide))
  have L0 := M.2.2.2.2.2.2.1
  -- a fault
  have bad : ∀ h' es' a b, rtF t br s.2.2.1.1 asks 21 0 [] [] = (es', some (a, b)) → rFr m (sA (sI (sI h 826 m (b2i br)) 825 m 0) (m + 11) 9 0) h' → hI h' 823 m = a → hI h' 824 m = b → Q (.inl (some (jI (-1)))) h' := fun h' es' a b r f g1 g2 => by
    rw [r] at k
    unfold accV at k
    have ff := fB.trans (f.1.mono (by decide) (by decide))
    have oo := oB.trans f.2
    obtain ⟨k1, k2, k3, k4, k5, k6, k7, k8, k9⟩ := M.keep ff
    refine k h' ff ⟨k1, k2 (by decide), k3 (by decide), k4 (by decide), k5 (by decide), k6 (by decide), ⟨oo _ _ (by decide) (by decide) L0.1, fun i hi => oo _ _ (by omega) (by omega) (L0.2 i hi)⟩, ⟨(ff.i (by decide)).trans fl.1, g1, g2⟩, k9 (by decide)⟩
  refine n_elements_loop (d := d) (asks := asks) ok hc 21 [] [] 0 _ rfl (by decide) rfl (Nat.zero_le _) S (fun h' es' a b r f g1 g2 => ⟨_, rfl, fun _ => bad h' es' a b r f g1 g2, fun w => absurd rfl w⟩) (fun h' es' ps' r f g1 g2 L B => ⟨_, rfl, fun w => absurd w (by decide), fun _ => ⟨(f.1.sh S.1).k, ?_⟩⟩)
  have H' := f.1.sh S.1
  have T' := f.1.tb S.2.1 (by decide)
  change rtF t br s.2.2.1.1 asks 21 0 [] [] = (es', jtF es' ps' asks es'.length 0) at r
  refine bX11_together (fun _ _ => n_together_loop (d := d) (asks := asks) (ps := ps') H' T' L B es'.length 0 (by omega) (fun jn => ⟨_, rfl, fun _ => ⟨H'.k, ?_⟩, fun w => absurd w (by decide)⟩) (fun a b js => ⟨_, rfl, fun w => absurd rfl w, fun _ => ?_⟩))
  · rw [r, jn] at k
    unfold accV at k
    refine n_copyAll H' L (by decide) (by decide) (by decide) (fun h4 f4 L4 o4 => ⟨_, rfl, ?_⟩)
    have ff := fB.trans ((f.1.mono (by decide) (by decide)).trans (f4.mono (by decide) (by decide)))
    have oo := oB.trans f.2
    obtain ⟨k1, k2, k3, k4, k5, k6, k7, k8, k9⟩ := M.keep ff
    have m3 : hI h4 823 m = 0 := (f4.i (by decide)).trans (g1.trans ((e3 823 (Or.inl rfl)).trans fl.2.1))
    have m4 : hI h4 824 m = -1 := (f4.i (by decide)).trans (g2.trans ((e3 824 (Or.inr rfl)).trans fl.2.2))
    exact k h4 ff ⟨k1, k2 (by decide), k3 (by decide), k4 (by decide), k5 (by decide), k6 (by decide), ⟨L4, fun i hi => o4 _ _ (by omega) (by omega) (by omega) (oo _ _ (by omega) (by omega) (L0.2 i hi))⟩, ⟨(ff.i (by decide)).trans fl.1, m3, m4⟩, k9 (by decide)⟩
  · have f0 : mFr m [823, 824] [] h' (sI (sI h' 823 m a) 824 m b) := (mFr.rfl.sI (by decide)).sI (by decide)
    refine bad _ es' a b (by rw [r, js]) (f.trans (rFr.simple f0 (by decide) (by decide))) ?_ ?_
    · rw [hI_sI, if_neg (by omega), hI_sI, if_pos ⟨.refl _, .refl _⟩]
    · rw [hI_sI, if_pos ⟨.refl _, .refl _⟩]
theorem n_read_loop {tp : List Int} (hl : tp.length ≤ 600) (n : Nat) : ∀ (i : Nat) (h : jH), i + n = tp.length → mSh h m → hI h 821 m = tp.length → (∀ j : Nat, j < tp.length → hA h (m + 16) (j : Int) = sb (tp.getD j 0)) → (∀ j : Nat, j < i → hA h (m + 17) (j : Int) = sb (tp.getD j 0)) → (∀ h', mFr m [] [17] h h' → (∀ j : Nat, j < tp.length → hA h' (m + 17) (j : Int) = sb (tp.getD j 0)) → jCall d mX11_taken [jR m, jI (b2i br), jI 1] (sI h' 819 m 0) (fun o h59 => ∃ v59, o = .inl (some (jI v59)) ∧ Q (.inl (some (jI v59))) h59)) → jWp (d + 1) mX11_read 25 [(0, jR m), (1, jI (b2i br)), (2, jI i)] [] h Q := by
  induction n with
  | zero =>
    intro i h hi H g a b k
    refine bX11_read_25 (fun _ _ _ => ⟨H.k, ?_⟩)
    rw [g]
    exact fun _ => ⟨fun _ => k h .rfl (fun j hj => b j (by omega)), fun z => by omega⟩
  | succ n ih =>
    intro i h hi H g a b k
    refine bX11_read_25 (fun _ _ _ => ⟨H.k, ?_⟩)
    rw [g, H.r818, H.k818, H.n818, H.r820, H.k820, H.n820, a i (by omega)]
    have f1 : mFr m [] [17] h (sA h (m + 17) i (sb (tp.getD i 0))) := mFr.rfl.sA (by decide)
    refine fun _ => ⟨fun z => by omega, fun z => ⟨.refl _, by omega, by omega, fun r => ⟨.refl _, by omega, r, ⟨by omega, by omega⟩, ih (i + 1) _ (by omega) (f1.sh H) ((f1.i (by decide)).trans g) (fun j hj => (f1.a (by decide) _).trans (a j hj)) (fun j hj => ?_) (fun h' p b' => k h' (f1.trans p) b')⟩⟩⟩
    rw [hA_sA]
    by_cases e : j = i
    · subst e; rw [if_pos ⟨.refl _, .refl _⟩]
    · rw [if_neg (by omega)]; exact b j (by omega)
theorem v_read (hb : okT s.1.1) (hc : 1950 ≤ s.2.2.1.1 ∧ s.2.2.1.1 ≤ 2200) (M : isMD h m s) (k : ∀ h', mFr m [812, 819, 821, 823, 824, 825, 826] [11, 12, 13, 14, 15, 17, 18, 19] h h' → isMD h' m (readV s br).2 → Q (.inl (some (jI (readV s br).1))) h') : jCall (d + 5) mX11_read [jR m, jI (b2i br)] h Q := by
  have R := M.2.2.1
  have ll : (s.1.1.map sb).length = s.1.1.length := List.length_map _
  have l6 := R.2.1
  have f1 : mFr m [812, 821, 823, 824] [] h (sI (sI (sI (sI h 812 m 0) 823 m 0) 824 m (-1)) 821 m s.1.1.length) := (((mFr.rfl.sI (by decide)).sI (by decide)).sI (by decide)).sI (by decide)
  refine bX11_read (fun _ _ => ⟨M.1.k, ?_⟩)
  rw [show hI (sI (sI (sI h 812 m 0) 823 m 0) 824 m (-1)) 819 m = s.1.1.length by rw [hI_sI, if_neg (by omega), hI_sI, if_neg (by omega), hI_sI, if_neg (by omega), R.1, ll]]
  refine fun _ => n_read_loop (d := d + 4) (tp := s.1.1) (by omega) s.1.1.length 0 _ (by omega) (f1.sh M.1) (by rw [hI_sI, if_pos ⟨.refl _, .refl _⟩]) (fun j hj => ?_) (fun j hj => absurd hj (by omega)) (fun h2 f2 b2 => ?_)
  · rw [f1.a (by decide), R.2.2 j (by omega), map_getD _ _ hj]
  · have f3 : mFr m [819] [] h2 (sI h2 819 m 0) := mFr.rfl.sI (by decide)
    have ff : mFr m [812, 819, 821, 823, 824, 825, 826] [11, 12, 13, 14, 15, 17, 18, 19] h (sI h2 819 m 0) := (f1.mono (by decide) (by decide)).trans ((f2.mono (by decide) (by decide)).trans (f3.mono (by decide) (by decide)))
    have fq : mFr m [812, 821, 823, 824, 819] [17] h (sI h2 819 m 0) := (f1.mono (by decide) (by decide)).trans ((f2.mono (by decide) (by decide)).trans (f3.mono (by decide) (by decide)))
    obtain ⟨k1, k2, k3, k4, k5, k6, k7, k8, k9⟩ := M.keep fq
    have M3 : isMD (sI h2 819 m 0) m (([], s.1.2), s.2.1, (s.2.2.1.1, 0, -1), s.2.2.2) := by
      refine ⟨k1, k2 (by decide), ⟨by rw [hI_sI, if_pos ⟨.refl _, .refl _⟩]; rfl, by simp, fun i hi => absurd hi (by simp)⟩, k4 (by decide), k5 (by decide), k6 (by decide), k7 (by decide), ⟨(fq.i (by decide)).trans M.2.2.2.2.2.2.2.1.1, ?_, ?_⟩, k9 (by decide)⟩
      · rw [f3.i (by decide), f2.i (by decide), hI_sI, if_neg (by omega), hI_sI, if_neg (by omega), hI_sI, if_pos ⟨.refl _, .refl _⟩]
      · rw [f3.i (by decide), f2.i (by decide), hI_sI, if_neg (by omega), hI_sI, if_pos ⟨.refl _, .refl _⟩]
    have g21 : hI (sI h2 819 m 0) 821 m = s.1.1.length := by rw [f3.i (by decide), f2.i (by decide), hI_sI, if_pos ⟨.refl _, .refl _⟩]
    have tk := v_taken (d := d) (m := m) (h := sI h2 819 m 0) (t := s.1.1) (br := br) (asks := true) (s := (([], s.1.2), s.2)) (Q := fun o h59 => ∃ v59, o = .inl (some (jI v59)) ∧ Q (.inl (some (jI v59))) h59) hb hc M3 g21 (by omega) (fun j hj => (f3.a (by decide) _).trans (b2 j hj)) (fun h' f' M' => ⟨_, rfl, k h' (ff.trans (f'.mono (by decide) (by decide))) M'⟩)
    exact tk
end MT5
