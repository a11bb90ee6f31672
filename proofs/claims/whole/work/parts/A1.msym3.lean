/-! THE MODEL: symbol -/
section MSz
variable {d m : Nat} {h : jH} {Q : jO → jH → Prop} {s : List Int} {st : jP}
theorem n_sym_loop {a3 : Int} (hs : s.length ≤ 48) (hb : okB s) (n : Nat) : ∀ (i : Nat) (c : Bool) (t : List Int) (h : jH), i ≤ s.length → (2 * (s.length - i) ≤ n ∨ (chgV s i c = false ∧ 2 * (s.length - i) ≤ n + 1)) → mSh h m → mCst h m s 0 → mRow h m 838 23 100 t → 1 ≤ t.length → t.length + n ≤ 98 → (∀ x ∈ t, 0 ≤ x ∧ x < 106) → (∀ h', mFr m [838] [23] h h' → mRow h' m 838 23 100 ((t ++ encF s n i c) ++ [chkV (t ++ encF s n i c) (t ++ encF s n i c).length, 106]) → Q (.inl (some (jI a3))) h') → jWp (d + 1) mX11_symbol 96 [(0, jR m), (2, jI s.length), (3, jI a3), (4, jI (b2i c)), (5, jI i)] [] h Q := by
  have done : ∀ (i : Nat) (c : Bool) (t : List Int) (h : jH), s.length ≤ i → i ≤ 100 → mSh h m → mRow h m 838 23 100 t → 1 ≤ t.length → t.length ≤ 98 → (∀ x ∈ t, 0 ≤ x ∧ x < 106) → (∀ h', mFr m [838] [23] h h' → mRow h' m 838 23 100 (t ++ [chkV t t.length, 106]) → Q (.inl (some (jI a3))) h') → jWp (d + 1) mX11_symbol 96 [(0, jR m), (2, jI s.length), (3, jI a3), (4, jI (b2i c)), (5, jI i)] [] h Q := fun i c t h hi hi2 H R h1 hl rg k => by
    refine bX11_symbol_96 (fun _ _ _ _ _ => ⟨fun _ => ⟨H.k, ?_⟩, fun z => by omega⟩)
    rw [R.1, H.r837]
    refine fun _ => n_checkSum H.k837 (by rw [H.n837]; omega) h1 (Nat.le_refl _) (by omega) R.2.2 (fun x hx => by have := rg x hx; omega) ⟨_, rfl, ?_⟩
    rw [H.k837, H.n837, H.r837, R.1, H.k837, H.n837]
    refine ⟨.refl _, by omega, by omega, H.k, fun _ => ⟨⟨by omega, by omega⟩, .refl _, by omega, by omega, ⟨by omega, by omega⟩, ?_⟩⟩
    have f1 : mFr m [838] [23] h (sI (sA (sA h (m + 23) t.length (chkV t t.length)) (m + 23) ((t.length : Int) + 1) 106) 838 m ((t.length : Int) + 2)) := ((mFr.rfl.sA (by decide)).sA (by decide)).sI (by decide)
    have al : (t ++ [chkV t t.length, 106]).length = t.length + 2 := by simp
    refine k _ f1 ⟨?_, by omega, fun j hj => ?_⟩
    · rw [hI_sI, if_pos ⟨.refl _, .refl _⟩, al]; omega
    · rw [al] at hj
      rw [hA_sI, hA_sA]
      by_cases e1 : j = t.length + 1
      · subst e1
        rw [if_pos ⟨.refl _, by omega⟩, app_getD _ _ _ (by omega), show t.length + 1 - t.length = 1 by omega]
        rfl
      · rw [if_neg (by omega), hA_sA]
        by_cases e0 : j = t.length
        · subst e0
          rw [if_pos ⟨.refl _, .refl _⟩, app_getD _ _ _ (by omega), Nat.sub_self]
          rfl
        · rw [if_neg (by omega), app_getL _ _ _ (by omega)]
          exact R.2.2 j (by omega)
  induction n with
  | zero =>
    intro i c t h hi hf H C R h1 hl rg k
    have e : s.length ≤ i := by omega
    simp only [encF, List.append_nil] at k
    exact done i c t h e (by omega) H R h1 (by omega) rg k
  | succ n ih =>
    intro i c t h hi hf H C R h1 hl rg k
    unfold encF at k
    by_cases hi2 : s.length ≤ i
    · rw [if_pos hi2, List.append_nil] at k
      exact done i c t h hi2 (by omega) H R h1 (by omega) rg k
    · rw [if_neg hi2] at k
      have cc := C.2 i (Nat.zero_le _) (by omega)
      have bb := hb.at (i := i) (by omega)
      have el : lAt s i = s.getD i 0 := lAt_get (by omega)
      have cr := bicV_rg s i
      -- the character at this place
      generalize hv : (if chgV s i c = true then (if c = true then 100 else 99) else chrV s i c : Int) = v
      have ev : hA h (m + 25) (2 * (i : Int) + b2i c) = v := by
        rw [← hv]
        cases c with
        | false => rw [show (2 : Int) * i + b2i false = 2 * i by simp [b2i], cc.1]; simp
        | true => rw [show (2 : Int) * i + b2i true = 2 * i + 1 by simp [b2i], cc.2]; simp
      have f1 : mFr m [838] [23] h (sI (sA h (m + 23) t.length v) 838 m (t.length + 1)) := (mFr.rfl.sA (by decide)).sI (by decide)
      have R1 := R.put (by omega) v
      have H1 := f1.sh H
      have C1 : mCst (sI (sA h (m + 23) t.length v) 838 m (t.length + 1)) m s 0 := ⟨fun j g1 g2 => by rw [f1.a (by decide), f1.a (by decide)]; exact C.1 j g1 g2, fun j g1 g2 => by rw [f1.a (by decide), f1.a (by decide)]; exact C.2 j g1 g2⟩
      -- a change
      have chg : chgV s i c = true → jWp (d + 1) mX11_symbol 96 [(0, jR m), (2, jI s.length), (3, jI a3), (4, jI (b2i !c)), (5, jI i)] [] (sI (sA h (m + 23) t.length v) 838 m (t.length + 1)) Q := fun z => by
        have hf2 : 2 * (s.length - i) ≤ n + 1 := by
          rcases hf with q | q
          · exact q
          · rw [z] at q; cases q.1
        rw [if_pos z] at hv
        rw [if_pos z, hv] at k
        refine ih i (!c) (t ++ [v]) _ hi (Or.inr ⟨chg_once s i c z, by omega⟩) H1 C1 R1 (by simp) (by simp; omega) (fun x hx => ?_) (fun h' p R' => k h' (f1.trans p) (by simpa using R'))
        rcases List.mem_append.mp hx with e | e
        · exact rg x e
        · rw [List.mem_singleton.mp e, ← hv]; split <;> decide
      have str : chgV s i c = false → ∀ q : Int, q = i + (if c = true then (bicV s i : Int) else 1) → jWp (d + 1) mX11_symbol 96 [(0, jR m), (2, jI s.length), (3, jI a3), (4, jI (b2i c)), (5, jI q)] [] (sI (sA h (m + 23) t.length v) 838 m (t.length + 1)) Q := fun z q eq => by
        rw [if_neg (by rw [z]; decide)] at hv
        rw [if_neg (by rw [z]; decide), hv] at k
        have nb : c = true → bicV s i ≠ 0 := fun ec q => by
          subst ec
          have := (no_bic hs q).1
          rw [z] at this
          cases this
        have v0 : 0 ≤ v ∧ v < 106 := by
          have := encF_ok hs hb (1 : Nat) i c v (by
            unfold encF
            rw [if_neg hi2, if_neg (by rw [z]; decide), hv]
            exact List.mem_cons_self)
          exact this
        have w1 : 1 ≤ (if c = true then bicV s i else 1) ∧ i + (if c = true then bicV s i else 1) ≤ s.length := by
          cases c with
          | false => simp; omega
          | true => have := nb rfl; simp; omega
        have eq2 : q = ((i + (if c = true then bicV s i else 1) : Nat) : Int) := by rw [eq]; cases c <;> simp
        rw [eq2]
        generalize (if c = true then bicV s i else 1) = w at *
        refine ih (i + w) c (t ++ [v]) _ w1.2 (Or.inl (by omega)) H1 C1 R1 (by simp) (by simp; omega) (fun x hx => ?_) (fun h' p R' => k h' (f1.trans p) (by simpa using R'))
        rcases List.mem_append.mp hx with e | e
        · exact rg x e
        · rw [List.mem_singleton.mp e]; exact v0
      -- the character tells which it is
      have vB : c = false → (v = 99 ↔ chgV s i c = true) := fun ec => by
        subst ec
        rw [← hv]
        cases z : chgV s i false with
        | true => simp
        | false =>
          simp only [Bool.false_eq_true, if_false, iff_false]
          unfold chrV
          split
          · decide
          · rw [if_neg (by decide)]; omega
      have vC : c = true → (v = 100 ↔ chgV s i c = true) := fun ec => by
        subst ec
        rw [← hv]
        cases z : chgV s i true with
        | true => simp
        | false =>
          simp only [Bool.false_eq_true, if_false, iff_false]
          unfold chrV
          have t2 := twoAt_rg (s := s) (f := i)
          split
          · decide
          · rw [if_pos rfl]; omega
      have v2 : c = true → chgV s i c = false → (v = 102 ↔ bicV s i = 1) ∧ (v ≠ 102 ↔ bicV s i = 2) := fun ec z => by
        subst ec
        rw [if_neg (by rw [z]; decide)] at hv
        have nb : bicV s i ≠ 0 := fun q => by
          have := (no_bic hs q).1
          rw [z] at this
          cases this
        have t2 := twoAt_rg (s := s) (f := i)
        rw [← hv]
        unfold chrV
        rw [bic_mark] at nb ⊢
        by_cases q : lAt s i = 29
        · rw [if_pos q, if_pos q]; simp
        · rw [if_neg q] at nb ⊢
          rw [if_neg q, if_pos rfl]
          by_cases q2 : digB s i 2 = true
          · rw [if_pos q2]; omega
          · rw [if_neg q2] at nb; exact absurd rfl nb
      have cb := b2i_rg c
      refine bX11_symbol_96 (fun _ _ _ _ _ => ⟨fun z => by omega, fun z => ⟨H.k, ⟨by omega, by omega⟩, ⟨by omega, by omega⟩, ?_⟩⟩)
      rw [H.r840, H.k840, H.n840, ev, R.1, H.r837, H.k837, H.n837]
      refine ⟨.refl _, by omega, by omega, fun _ _ => ⟨.refl _, by omega, by omega, ⟨by omega, by omega⟩, ?_⟩⟩
      have k174 : chgV s i c = false → jWp (d + 1) mX11_symbol 174 [(0, jR m), (2, jI s.length), (3, jI a3), (4, jI (b2i c)), (5, jI i), (6, jI v)] [] (sI (sA h (m + 23) t.length v) 838 m (t.length + 1)) Q := fun z => by
        have k194 : ∀ w : Int, (w : Int) = (if c = true then (bicV s i : Int) else 1) → 0 ≤ w ∧ w ≤ 2 → jWp (d + 1) mX11_symbol 194 [(0, jR m), (2, jI s.length), (3, jI a3), (4, jI (b2i c))] [jI w, jI i] (sI (sA h (m + 23) t.length v) 838 m (t.length + 1)) Q := fun w ew wr =>
          bX11_symbol_194 (fun _ _ _ _ => ⟨⟨by omega, by omega⟩, bX11_symbol_197 (fun _ _ _ _ _ => str z _ (by rw [ew]))⟩)
        refine bX11_symbol_174 (fun _ _ _ _ _ _ => ⟨fun n1 => ?_, fun e1 => ⟨fun e102 => ?_, fun n102 => ?_⟩⟩)
        · have ec : c = false := by cases c; rfl; exact absurd rfl n1
          exact bX11_symbol_193 (fun _ _ _ _ => k194 1 (by rw [ec]; simp) (by decide))
        · have ec : c = true := by cases c; exact absurd e1 (by decide); rfl
          exact bX11_symbol_193 (fun _ _ _ _ => k194 1 (by rw [if_pos ec, ((v2 ec z).1.mp e102)]; rfl) (by decide))
        · have ec : c = true := by cases c; exact absurd e1 (by decide); rfl
          exact k194 2 (by rw [if_pos ec, ((v2 ec z).2.mp n102)]; rfl) (by decide)
      have kchg : chgV s i c = true → ∀ q : Int, q = b2i (!c) → jWp (d + 1) mX11_symbol 197 [(0, jR m), (2, jI s.length), (3, jI a3), (4, jI q), (5, jI i)] [] (sI (sA h (m + 23) t.length v) 838 m (t.length + 1)) Q := fun z q eq => by
        subst eq
        exact bX11_symbol_197 (fun _ _ _ _ _ => chg z)
      refine ⟨fun n0 => ⟨fun n1 => ?_, fun e1 => ⟨fun n100 => ?_, fun e100 => ?_⟩⟩, fun e0 => ⟨fun n99 => ⟨fun n1 => ?_, fun e1 => ?_⟩, fun e99 => ?_⟩⟩
      · cases c
        · exact absurd rfl n0
        · exact absurd rfl n1
      · have ec := (b2i_ne _).mp n0
        refine k174 ?_
        cases z : chgV s i c with
        | false => rfl
        | true => exact absurd ((vC ec).mpr z) n100
      · have ec := (b2i_ne _).mp n0
        exact kchg ((vC ec).mp e100) 0 (by rw [ec]; rfl)
      · have ec := (b2i_eq _).mp e0
        refine k174 ?_
        cases z : chgV s i c with
        | false => rfl
        | true => exact absurd ((vB ec).mpr z) n99
      · rw [e0] at e1; exact absurd e1 (by decide)
      · have ec := (b2i_eq _).mp e0
        exact kchg ((vB ec).mp e99) 1 (by rw [ec]; rfl)
theorem v_symbol {i : Int} (hb : ∀ y ∈ st.2.1.1, ∀ c ∈ y.2.2.1, 32 ≤ c ∧ c < 128) (M : isMD h m st) (k0 : (i < 0 ∨ st.2.1.1.length ≤ i) → ∀ h', mFr m [812, 829, 838] [23, 24, 25, 26] h h' → isMD h' m st → hI h' 812 m = 1 → Q (.inl (some (jI (-1)))) h') (k1 : 0 ≤ i → i < st.2.1.1.length → ∀ h', mFr m [812, 829, 838] [23, 24, 25, 26] h h' → isMD h' m (symV st i.toNat).2 → hI h' 812 m = 0 → Q (.inl (some (jI (symV st i.toNat).1))) h') : jCall (d + 3) mX11_symbol [jR m, jI i] h Q := by
  have L := M.2.2.2.2.2.2.1.1
  have l20 := L.2.1
  have M0 := md_0 M 0
  have f0 : mFr m [812, 829, 838] [23, 24, 25, 26] h (sI h 812 m 0) := mFr.rfl.sI (by decide)
  have g0 : hI (sI h 812 m 0) 812 m = 0 := by rw [hI_sI, if_pos ⟨.refl _, .refl _⟩]
  refine bX11_symbol (fun _ _ => ⟨M.1.k, n_isOut (d := d + 1) M0.1 M0.2.2.2.2.2.2.1.1 (fun z => ⟨_, rfl, fun w => absurd w (by decide), fun _ => k0 z _ (f0.sI (by decide)) (md_0 M0 1) (by rw [hI_sI, if_pos ⟨.refl _, .refl _⟩])⟩) (fun z z2 => ⟨_, rfl, fun _ => ⟨M0.1.k, ?_⟩, fun w => absurd rfl w⟩)⟩)
  have kk := k1 z z2
  obtain ⟨K, rfl⟩ : ∃ K : Nat, i = K := ⟨i.toNat, by omega⟩
  rw [Int.toNat_natCast] at kk
  generalize hes : st.2.1.1 = es at *
  unfold symV at kk
  rw [hes] at kk
  have fs := fiF_sum es K 48 (es.length - K) K 0
  rw [fiF_48] at fs
  have e8 : seF es K (es.length - K) K 0 = seV es K := rfl
  rw [e8] at fs
  have sr := seV_rg es (f := K) (by omega)
  have hd : ∀ j, 0 ≤ (es.getD j dE).2.1 := fun j => by
    by_cases hj : j < es.length
    · have u := tabX (L.2.2 j hj).1
      omega
    · rw [getD_out hj]; decide
  have sl := strF_len (es := es) (f := K) hd (seV es K - K) K
  have ss := seF_sum es K (es.length - K) K 0 (by decide)
  rw [e8] at ss
  have ln : ((symStr es K).length : Int) = (fiF es K 48 (es.length - K) K 0).1 := by
    rw [fs.2.2]; unfold symStr; rw [sl]; omega
  have L0 := M0.2.2.2.2.2.2.1.1
  rw [hes] at L0
  refine n_fits (d := d + 1) M0.1 M0.2.1 L0 (by decide) (by omega) (fun h2 f2 g2 => ⟨_, rfl, (f2.sh M0.1).k, ?_⟩)
  rw [g2, fiF_48, e8, ← ln]
  have H2 := f2.sh M0.1
  have f02 : mFr m [812, 829, 838] [23, 24, 25, 26] h h2 := f0.trans (f2.mono (by decide) (by decide))
  have s48 : (symStr es K).length ≤ 48 := by unfold symStr; omega
  refine fun _ => ⟨fun nz => ⟨⟨by omega, by omega⟩, ?_⟩, fun ez => ?_⟩
  · rw [if_neg (by omega)] at kk
    rw [show (K : Int) + (((seV es K : Nat) : Int) - K) = ((seV es K : Nat) : Int) by omega]
    have hbs : ∀ y ∈ es, ∀ c ∈ y.2.2.1, 32 ≤ c ∧ c < 128 := hb
    have okS : okB (symStr es K) := strF_ok hbs _ _
    refine n_stringOf (d := d + 1) sr.1 sr.2 hbs H2 (f2.tb M0.2.1 (by decide)) (f2.lst L0 (by decide)) s48 (fun h3 f3 S3 => ⟨rfl, (f3.sh H2).k, ?_⟩)
    have H3 := f3.sh H2
    refine n_fewest (d := d) s48 okS H3 S3 (fun h4 f4 C4 => ⟨rfl, (f4.sh H3).k, ?_⟩)
    have H4 := f4.sh H3
    have c0 := C4.1 0 (Nat.le_refl _) (Nat.zero_le _)
    rw [List.drop_zero] at c0
    have c00 : hA h4 (m + 24) 0 = (costs (symStr es K)).1 := c0.1
    have c01 : hA h4 (m + 24) 1 = (costs (symStr es K)).2 := c0.2
    have f04 : mFr m [812, 829, 838] [23, 24, 25, 26] h h4 := f02.trans ((f3.mono (by decide) (by decide)).trans (f4.mono (by decide) (by decide)))
    rw [H4.r839, H4.k839, H4.n839, c00, c01, H4.r837, H4.k837, H4.n837]
    have fin : ∀ c : Bool, c = encS (symStr es K) → jWp (d + 3) mX11_symbol 96 [(0, jR m), (2, jI (symStr es K).length), (3, jI (((seV es K : Nat) : Int) - K)), (4, jI (b2i c)), (5, jI 0)] [] (sI (sA (sA h4 (m + 23) 0 (104 + b2i c)) (m + 23) 1 102) 838 m 2) Q := fun c ec => by
      have f5 : mFr m [838] [23] h4 (sI (sA (sA h4 (m + 23) 0 (104 + b2i c)) (m + 23) 1 102) 838 m 2) := ((mFr.rfl.sA (by decide)).sA (by decide)).sI (by decide)
      have cb := b2i_rg c
      refine n_sym_loop (d := d + 2) s48 okS 96 0 c [104 + b2i c, 102] _ (Nat.zero_le _) (Or.inl (by omega)) (f5.sh H4) ⟨fun j g1 g2 => by rw [f5.a (by decide), f5.a (by decide)]; exact C4.1 j g1 g2, fun j g1 g2 => by rw [f5.a (by decide), f5.a (by decide)]; exact C4.2 j g1 g2⟩ ⟨?_, by simp, fun j hj => ?_⟩ (by simp) (by simp) (fun x hx => ?_) (fun h6 f6 R6 => ?_)
      · rw [hI_sI, if_pos ⟨.refl _, .refl _⟩]; rfl
      · rw [hA_sI, hA_sA]
        rcases (show j = 0 ∨ j = 1 by simp at hj; omega) with e | e
        · subst e; rw [if_neg (by omega), hA_sA, if_pos ⟨.refl _, rfl⟩]; rfl
        · subst e; rw [if_pos ⟨.refl _, rfl⟩]; rfl
      · rcases List.mem_cons.mp hx with e | e
        · omega
        · rw [List.mem_singleton.mp e]; decide
      · have f06 : mFr m [812, 829, 838] [23, 24, 25, 26] h h6 := f04.trans ((f5.trans f6).mono (by decide) (by decide))
        have eV : [104 + b2i c, 102] ++ encF (symStr es K) 96 0 c ++ [chkV ([104 + b2i c, 102] ++ encF (symStr es K) 96 0 c) ([104 + b2i c, 102] ++ encF (symStr es K) 96 0 c).length, 106] = encV (symStr es K) := by
          unfold encV encP
          rw [← ec]
        rw [eV] at R6
        have g6 : hI h6 812 m = 0 := by
          rw [f6.i (by decide), f5.i (by decide), f4.i (by decide), f3.i (by decide), f2.i (by decide)]
          exact g0
        exact kk h6 f06 (md_symbol M f06 (by decide) (by decide) R6) g6
    refine ⟨.refl _, by decide, by decide, fun _ => ⟨by decide, by decide, fun _ => ⟨fun w => ⟨⟨by decide, by decide⟩, .refl _, by decide, by decide, ?_⟩, fun w => ⟨⟨by decide, by decide⟩, .refl _, by decide, by decide, ?_⟩⟩⟩⟩
    · exact fin false (by unfold encS; rw [decide_eq_false (by omega)])
    · exact fin true (by unfold encS; rw [decide_eq_true (by omega)])
  · rw [if_pos (by omega)] at kk
    exact kk h2 f02 (md_same M0 f2 (by decide) (by decide)) ((f2.i (by decide)).trans g0)
end MSz
