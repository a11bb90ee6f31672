/-! THE MODEL: what the characters tell; scan -/
def mTo (h : jH) (m : Nat) (o : List Int) : Prop := hI h 821 m = o.length ∧ (∀ i : Nat, i < o.length → hA h (m + 17) (i : Int) = sb (o.getD i 0)) ∧ ∀ x ∈ o, 0 ≤ x ∧ x < 128
theorem byt_rg {s c : Int} (h : bytV s c ≠ -1) : 0 ≤ bytV s c ∧ bytV s c < 128 := by
  have e : (if s = 103 then 64 else if s = 104 then 96 else 0 : Int) ≤ 96 := by
    by_cases a : s = 103
    · rw [if_pos a]; decide
    · rw [if_neg a]
      by_cases b : s = 104
      · rw [if_pos b]; decide
      · rw [if_neg b]; decide
  unfold bytV at h ⊢
  generalize (if s = 103 then 64 else if s = 104 then 96 else 0 : Int) = b at *
  by_cases z : 0 ≤ c ∧ c < b
  · rw [if_pos z]; omega
  · rw [if_neg z] at h; exact absurd rfl h
section MTl
variable {d m : Nat} {h : jH} {Q : jO → jH → Prop} {t : List Int} {lo wi : Int} {fr : Bool} {s : jP}
theorem n_tell {o : List Int} {b : Int} (hb : 0 ≤ b ∧ b < 128) (H : mSh h m) (O : mTo h m o) (hl : o.length < 600) (k : ∀ h', mFr m [821] [17] h h' → mTo h' m (o ++ [b]) → Q (.inl none) h') : jCall d mX11_tell [jR m, jI b] h Q := by
  refine bX11_tell (fun _ _ => ⟨H.k, ?_⟩)
  rw [O.1, H.r820, H.k820, H.n820, show (b + 128) % 256 - 128 = b by omega]
  refine fun _ => ⟨.refl _, by omega, by omega, ⟨by omega, by omega⟩, k _ ((mFr.rfl.sA (by decide)).sI (by decide)) ⟨?_, fun i hi => ?_, fun x hx => ?_⟩⟩
  · rw [hI_sI, if_pos ⟨.refl _, .refl _⟩]; simp
  · rw [hA_sI, hA_sA]
    by_cases e : i = o.length
    · rw [if_pos ⟨.refl _, by omega⟩, e]
      simp [sb_id hb.2]
    · simp at hi
      rw [if_neg (by omega), O.2.1 i (by omega), app_getL _ _ _ (by omega)]
  · rcases List.mem_append.mp hx with e | e
    · exact O.2.2 x e
    · rw [List.mem_singleton.mp e]; exact hb
theorem n_byteOf {s c : Int} (hs : s = 103 ∨ s = 104) (hc : 0 ≤ c ∧ c < 1000) (k : Q (.inl (some (jI (bytV s c)))) h) : jCall d mX11_byteOf [jI (s - 103), jI c] h Q := by
  unfold bytV at k
  rcases hs with e | e
  · subst e
    rw [if_pos rfl] at k
    refine bX11_byteOf (fun _ _ _ => ⟨fun z => absurd (by decide) z, fun _ => ⟨fun w => ?_, fun w => ⟨⟨by omega, by omega⟩, ?_⟩⟩⟩)
    · rw [if_neg (by omega)] at k; exact k
    · rw [if_pos (by omega)] at k; exact k
  · subst e
    rw [if_neg (show ¬ (104 : Int) = 103 by decide), if_pos rfl] at k
    refine bX11_byteOf (fun _ _ _ => ⟨fun _ => ⟨fun w => ?_, fun w => ⟨⟨by omega, by omega⟩, ?_⟩⟩, fun z => absurd z (by decide)⟩)
    · rw [if_neg (by omega)] at k; exact k
    · rw [if_pos (by omega)] at k; exact k
theorem n_tells_loop {c0 ps : List Int} (hc : ∀ x ∈ c0, 0 ≤ x ∧ x < 106) (h100 : c0.length ≤ 100) (hps : ps.length = c0.length + 1) (n : Nat) : ∀ (i : Nat) (s : Int) (o : List Int) (h : jH), c0.length - 1 ≤ i + n → 2 ≤ i → i ≤ 110 → (s = 103 ∨ s = 104 ∨ s = 105) → o.length ≤ 2 * i → mBr h m t lo wi fr → mCh h m lo wi fr c0 (ps.take c0.length) → mTo h m o → (∀ h' o' a b, tlF (c0 ++ [106]) ps (c0.length - 1) n i s o = (o', some (a, b)) → mFr m [821, 823, 824] [17] h h' → hI h' 823 m = a → hI h' 824 m = b → Q (.inl (some (jI 0))) h') → (∀ h' o', tlF (c0 ++ [106]) ps (c0.length - 1) n i s o = (o', none) → mFr m [821] [17] h h' → mTo h' m o' → o'.length ≤ 600 → Q (.inl (some (jI 1))) h') → jWp (d + 2) mX11_tells 17 [(0, jR m), (1, jI c0.length), (2, jI (s - 103)), (3, jI i)] [] h Q := by
  induction n with
  | zero =>
    intro i s o h hi h2 hi3 hs ho B C O kf kt
    exact bX11_tells_17 (fun _ _ _ _ => ⟨⟨by omega, by omega⟩, fun _ => kt h o rfl .rfl O (by by_cases c : i ≤ 200 <;> omega), fun z => by omega⟩)
  | succ n ih =>
    intro i s o h hi h2 hi3 hs ho B C O kf kt
    have H := B.1
    unfold tlF at kf kt
    by_cases he : c0.length - 1 ≤ i
    · rw [if_pos he] at kt
      exact bX11_tells_17 (fun _ _ _ _ => ⟨⟨by omega, by omega⟩, fun _ => kt h o rfl .rfl O (by by_cases c : i ≤ 200 <;> omega), fun z => by omega⟩)
    · rw [if_neg he] at kf kt
      have el : lAt (c0 ++ [106]) (i : Int) = c0.getD i 0 := by rw [lAt_get (by simp; omega), app_getL _ _ _ (by omega)]
      have m1 : c0.getD i 0 ∈ c0 := by
        rw [List.getD_eq_getElem?_getD, List.getElem?_eq_getElem (by omega)]
        exact List.getElem_mem _
      have cr := hc _ m1
      have cv := C.2.1 i (by omega)
      rw [el] at kf kt
      -- on to the next place
      have next : ∀ (w : Nat) (s' : Int) (o' : List Int) (h1 : jH), 1 ≤ w ∧ w ≤ 2 → (s' = 103 ∨ s' = 104 ∨ s' = 105) → o'.length ≤ 2 * (i + w) → mFr m [821] [17] h h1 → mTo h1 m o' → (∀ h' o2 a b, tlF (c0 ++ [106]) ps (c0.length - 1) n (i + w) s' o' = (o2, some (a, b)) → mFr m [821, 823, 824] [17] h1 h' → hI h' 823 m = a → hI h' 824 m = b → Q (.inl (some (jI 0))) h') → (∀ h' o2, tlF (c0 ++ [106]) ps (c0.length - 1) n (i + w) s' o' = (o2, none) → mFr m [821] [17] h1 h' → mTo h' m o2 → o2.length ≤ 600 → Q (.inl (some (jI 1))) h') → ∀ q : Int, q = ((i + w : Nat) : Int) - 1 → jWp (d + 2) mX11_tells 241 [(0, jR m), (1, jI c0.length), (2, jI (s' - 103)), (3, jI q)] [] h1 Q := fun w s' o' h1 hw hs' ho' f1 O1 kf1 kt1 q eq => by
        refine bX11_tells_241 (fun _ _ _ _ => ⟨⟨by omega, by omega⟩, ?_⟩)
        rw [show q + 1 = ((i + w : Nat) : Int) by omega]
        exact ih (i + w) s' o' h1 (by omega) (by omega) (by omega) hs' ho' (f1.br B (by decide) (by decide)) ⟨C.1, fun j hj => (f1.a (by decide) _).trans (C.2.1 j hj), fun j hj => by rw [f1.a (by decide)]; exact C.2.2 j hj⟩ O1 kf1 kt1
      have keepF : ∀ {h1 h' : jH}, mFr m [821] [17] h h1 → mFr m [821, 823, 824] [17] h1 h' → mFr m [821, 823, 824] [17] h h' := fun f p => (f.mono (by decide) (by decide)).trans p
      -- no meaning
      have bad : (∀ h' o' a b, (o, some ((16 : Int), lAt ps (i : Int))) = ((o', some (a, b)) : List Int × Option (Int × Int)) → mFr m [821, 823, 824] [17] h h' → hI h' 823 m = a → hI h' 824 m = b → Q (.inl (some (jI 0))) h') → jWp (d + 2) mX11_tells 224 [(0, jR m), (3, jI i)] [] h Q := fun kb => by
        have c2 := C.2.2 i (by omega)
        have ep : lAt ps (i : Int) = plcV lo wi fr (hA h (m + 29) (i : Int)) := by
          rw [c2.1, lAt_get (by omega), List.getD_eq_getElem?_getD, List.getD_eq_getElem?_getD, List.getElem?_take, if_pos (by omega)]
        refine bX11_tells_224 (fun _ _ => ⟨H.k, ?_⟩)
        rw [H.r848, H.k848, H.n848]
        have f0 : mFr m [821, 823, 824] [17] h (sI (sI h 823 m 16) 824 m (plcV lo wi fr (hA h (m + 29) (i : Int)))) := (mFr.rfl.sI (by decide)).sI (by decide)
        refine ⟨.refl _, by omega, by omega, fun _ => n_placeOf ⟨by omega, by omega⟩ B ⟨_, rfl, H.k, n_fault H ⟨_, rfl, by decide, kb _ o 16 _ rfl f0 ?_ ?_⟩⟩⟩
        · rw [hI_sI, if_neg (by omega), hI_sI, if_pos ⟨.refl _, .refl _⟩]
        · rw [hI_sI, if_pos ⟨.refl _, .refl _⟩, ep]
      -- the sets change
      have k174 : (c0.getD i 0 ≠ 102) → ¬ (s = 105 ∧ c0.getD i 0 < 100) → ¬ (bytV s (c0.getD i 0) ≠ -1) → ¬ (shfV s (c0.getD i 0) (if i + 1 < c0.length - 1 then lAt (c0 ++ [106]) ((i : Int) + 1) else -1) ≠ -1) → jWp (d + 2) mX11_tells 174 [(0, jR m), (1, jI c0.length), (2, jI (s - 103)), (3, jI i), (4, jI (c0.getD i 0))] [] h Q := fun n1 n2 n3 n4 => by
        rw [if_neg n1, if_neg n2, if_neg n3, if_neg n4] at kf kt
        unfold cgdV at kf kt
        have go : ∀ s' : Int, (s' = 103 ∨ s' = 104 ∨ s' = 105) → (if c0.getD i 0 = 101 ∧ s ≠ 103 then 103 else if c0.getD i 0 = 100 ∧ s ≠ 104 then 104 else if c0.getD i 0 = 99 ∧ s ≠ 105 then 105 else -1 : Int) = s' → ∀ q : Int, q = s' - 103 → jWp (d + 2) mX11_tells 241 [(0, jR m), (1, jI c0.length), (2, jI q), (3, jI i)] [] h Q := fun s' hs' es q eq => by
          rw [es, if_pos (by omega)] at kf kt
          rw [eq]
          exact next 1 s' o h (by decide) hs' (by omega) .rfl O kf kt _ (by omega)
        have nob : (if c0.getD i 0 = 101 ∧ s ≠ 103 then 103 else if c0.getD i 0 = 100 ∧ s ≠ 104 then 104 else if c0.getD i 0 = 99 ∧ s ≠ 105 then 105 else -1 : Int) = -1 → jWp (d + 2) mX11_tells 224 [(0, jR m), (3, jI i)] [] h Q := fun es => by
          rw [es, if_neg (fun q => q rfl)] at kf
          exact bad kf
        have k208 : ¬ (c0.getD i 0 = 99 ∧ s ≠ 105) → ¬ (c0.getD i 0 = 100 ∧ s ≠ 104) → jWp (d + 2) mX11_tells 208 [(0, jR m), (1, jI c0.length), (2, jI (s - 103)), (3, jI i), (4, jI (c0.getD i 0))] [] h Q := fun a b =>
          bX11_tells_208 (fun _ _ _ _ _ => ⟨fun z => nob (by rw [if_neg (fun q => z q.1), if_neg b, if_neg a]), fun z => ⟨fun w => nob (by rw [if_neg (fun q => q.2 (by omega)), if_neg b, if_neg a]), fun w => go 103 (Or.inl rfl) (by rw [if_pos ⟨z, by omega⟩]) 0 (by omega)⟩⟩)
        have k191 : ¬ (c0.getD i 0 = 99 ∧ s ≠ 105) → jWp (d + 2) mX11_tells 191 [(0, jR m), (1, jI c0.length), (2, jI (s - 103)), (3, jI i), (4, jI (c0.getD i 0))] [] h Q := fun a =>
          bX11_tells_191 (fun _ _ _ _ _ => ⟨fun z => k208 a (fun q => z q.1), fun z => ⟨fun w => k208 a (fun q => q.2 (by omega)), fun w => go 104 (Or.inr (Or.inl rfl)) (by rw [if_neg (by omega), if_pos ⟨z, by omega⟩]) 1 (by omega)⟩⟩)
        exact bX11_tells_174 (fun _ _ _ _ _ => ⟨fun z => k191 (fun q => z q.1), fun z => ⟨fun w => k191 (fun q => q.2 (by omega)), fun w => go 105 (Or.inr (Or.inr rfl)) (by rw [if_neg (by omega), if_neg (by omega), if_pos ⟨z, by omega⟩]) 2 (by omega)⟩⟩)
      -- a shift
      have k114 : (c0.getD i 0 ≠ 102) → ¬ (s = 105 ∧ c0.getD i 0 < 100) → ¬ (bytV s (c0.getD i 0) ≠ -1) → jWp (d + 2) mX11_tells 114 [(0, jR m), (1, jI c0.length), (2, jI (s - 103)), (3, jI i), (4, jI (c0.getD i 0))] [] h Q := fun n1 n2 n3 => by
        have no := k174 n1 n2 n3
        rw [if_neg n1, if_neg n2, if_neg n3] at kf kt
        have bm : bytV (-1) (if i + 1 < c0.length - 1 then lAt (c0 ++ [106]) ((i : Int) + 1) else -1) = -1 := by
          unfold bytV
          rw [show (if (-1 : Int) = 103 then 64 else if (-1 : Int) = 104 then 96 else 0 : Int) = 0 by decide, if_neg (by omega)]
        refine bX11_tells_114 (fun _ _ _ _ _ => ⟨fun z => no (fun q => q ?_), fun z => ⟨fun w => no (fun q => q ?_), fun w => ⟨⟨by omega, by omega⟩, ⟨by omega, by omega⟩, fun y => no (fun q => q ?_), fun y => ⟨⟨by omega, by omega⟩, H.k, ?_⟩⟩⟩⟩)
        · unfold shfV othV
          split
          · rw [if_neg (by omega), if_neg (by omega)]; exact bm
          · rfl
        · unfold shfV
          rw [if_neg w]
        · unfold shfV
          rw [if_neg (show ¬ i + 1 < c0.length - 1 by omega)]
          split
          · unfold bytV; rw [if_neg (by omega)]
          · rfl
        · have el1 : lAt (c0 ++ [106]) ((i : Int) + 1) = c0.getD (i + 1) 0 := by rw [show (i : Int) + 1 = ((i + 1 : Nat) : Int) by omega, lAt_get (by simp; omega), app_getL _ _ _ (by omega)]
          have m2 : c0.getD (i + 1) 0 ∈ c0 := by
            rw [List.getD_eq_getElem?_getD, List.getElem?_eq_getElem (by omega)]
            exact List.getElem_mem _
          have cr2 := hc _ m2
          have cv2 := C.2.1 (i + 1) (by omega)
          rw [show ((i + 1 : Nat) : Int) = (i : Int) + 1 by omega] at cv2
          have sh : shfV s (c0.getD i 0) (if i + 1 < c0.length - 1 then lAt (c0 ++ [106]) ((i : Int) + 1) else -1) = bytV (othV s) (c0.getD (i + 1) 0) := by
            unfold shfV
            rw [if_pos w, if_pos (by omega), el1]
          have os : (othV s = 103 ∨ othV s = 104) ∧ 1 - (s - 103) = othV s - 103 := by
            unfold othV
            rcases hs with e | e | e
            · subst e; exact ⟨Or.inr rfl, rfl⟩
            · subst e; exact ⟨Or.inl rfl, rfl⟩
            · omega
          have br : bytV (othV s) (c0.getD (i + 1) 0) ≠ -1 → 0 ≤ bytV (othV s) (c0.getD (i + 1) 0) ∧ bytV (othV s) (c0.getD (i + 1) 0) < 128 := fun q => byt_rg q
          rw [H.r847, H.k847, H.n847, cv2, os.2]
          refine ⟨.refl _, by omega, by omega, fun _ => n_byteOf os.1 (by omega) ⟨_, rfl, fun v => no (fun q => q ?_), fun v => ⟨⟨by omega, by omega⟩, ⟨by omega, by omega⟩, H.k, ?_⟩⟩⟩
          · rw [sh]
            by_cases c : bytV (othV s) (c0.getD (i + 1) 0) = -1
            · exact c
            · have := br c; omega
          · have nz : bytV (othV s) (c0.getD (i + 1) 0) ≠ -1 := fun q => by rw [q] at v; exact v (by decide)
            rw [sh, if_pos nz] at kf kt
            rw [H.r847, H.k847, H.n847, cv2]
            refine ⟨.refl _, by omega, by omega, fun _ => n_byteOf os.1 (by omega) ⟨_, rfl, H.k, ?_⟩⟩
            refine n_tell (br nz) H O (by omega) (fun h1 f1 O1 => ⟨rfl, ?_⟩)
            exact next 2 s _ h1 (by decide) hs (by simp; omega) f1 O1 (fun h' o2 a b r p => kf h' o2 a b r (keepF f1 p)) (fun h' o2 r p => kt h' o2 r (f1.trans p)) _ (by omega)
      -- a byte of the set
      have kbyt : (c0.getD i 0 ≠ 102) → ¬ (s = 105 ∧ c0.getD i 0 < 100) → (2 ≤ s - 103 → jWp (d + 2) mX11_tells 114 [(0, jR m), (1, jI c0.length), (2, jI (s - 103)), (3, jI i), (4, jI (c0.getD i 0))] [] h Q) ∧ (¬ (2 ≤ s - 103) → jCall (d + 1) mX11_byteOf [jI (s - 103), jI (c0.getD i 0)] h (fun o h95 => ∃ v95, o = .inl (some (jI v95)) ∧ ((v95 < 0 → jWp (d + 2) mX11_tells 114 [(0, jR m), (1, jI c0.length), (2, jI (s - 103)), (3, jI i), (4, jI (c0.getD i 0))] [] h95 Q) ∧ (¬ (v95 < 0) → jCall (d + 1) mX11_byteOf [jI (s - 103), jI (c0.getD i 0)] h95 (fun o h105 => ∃ v105, o = .inl (some (jI v105)) ∧ hK h105 m = 9 ∧ jCall (d + 1) mX11_tell [jR m, jI v105] h105 (fun o h108 => o = .inl none ∧ jWp (d + 2) mX11_tells 241 [(0, jR m), (1, jI c0.length), (2, jI (s - 103)), (3, jI i)] [] h108 Q)))))) := fun n1 n2 => by
        have no := k114 n1 n2
        rw [if_neg n1, if_neg n2] at kf kt
        refine ⟨fun z => no (fun q => q ?_), fun z => ?_⟩
        · unfold bytV
          rw [if_neg (show ¬ s = 103 by omega), if_neg (show ¬ s = 104 by omega), if_neg (by omega)]
        · have hs2 : s = 103 ∨ s = 104 := by omega
          have br : bytV s (c0.getD i 0) ≠ -1 → 0 ≤ bytV s (c0.getD i 0) ∧ bytV s (c0.getD i 0) < 128 := fun q => byt_rg q
          refine n_byteOf hs2 (by omega) ⟨_, rfl, fun v => no (fun q => ?_), fun v => n_byteOf hs2 (by omega) ⟨_, rfl, H.k, ?_⟩⟩
          · have := br q; omega
          · have nz : bytV s (c0.getD i 0) ≠ -1 := fun q => by rw [q] at v; exact v (by decide)
            rw [if_pos nz] at kf kt
            refine n_tell (br nz) H O (by omega) (fun h1 f1 O1 => ⟨rfl, ?_⟩)
            exact next 1 s _ h1 (by decide) hs (by simp; omega) f1 O1 (fun h' o2 a b r p => kf h' o2 a b r (keepF f1 p)) (fun h' o2 r p => kt h' o2 r (f1.trans p)) _ (by omega)
      refine bX11_tells_17 (fun _ _ _ _ => ⟨⟨by omega, by omega⟩, fun z => by omega, fun z => ⟨H.k, ?_⟩⟩)
      rw [H.r847, H.k847, H.n847, cv]
      refine ⟨.refl _, by omega, by omega, fun _ => ⟨fun n1 => ⟨fun n2 => kbyt n1 (fun q => n2 (by omega)), fun e2 => ⟨fun g => kbyt n1 (by omega), fun g => ⟨by omega, ⟨by omega, by omega⟩, ?_⟩⟩⟩, fun e1 => ?_⟩⟩
      · rw [if_neg n1, if_pos ⟨by omega, by omega⟩] at kf kt
        refine n_tell (by omega) H O (by omega) (fun h1 f1 O1 => ⟨rfl, by omega, ⟨by omega, by omega⟩, (f1.sh H).k, ?_⟩)
        refine n_tell (by omega) (f1.sh H) O1 (by simp; omega) (fun h2' f2 O2 => ⟨rfl, ?_⟩)
        have f12 := f1.trans f2
        rw [List.append_assoc, List.singleton_append] at O2
        exact next 1 s _ h2' (by decide) hs (by simp; omega) f12 O2 (fun h' o2 a b r p => kf h' o2 a b r (keepF f12 p)) (fun h' o2 r p => kt h' o2 r (f12.trans p)) _ (by omega)
      · rw [if_pos e1] at kf kt
        refine n_tell (by decide) H O (by omega) (fun h1 f1 O1 => ⟨rfl, ?_⟩)
        exact next 1 s _ h1 (by decide) hs (by simp; omega) f1 O1 (fun h' o2 a b r p => kf h' o2 a b r (keepF f1 p)) (fun h' o2 r p => kt h' o2 r (f1.trans p)) _ (by omega)
end MTl
