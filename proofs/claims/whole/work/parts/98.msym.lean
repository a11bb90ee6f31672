/-! THE MODEL: symbols -/
theorem chg_once (s : List Int) (i : Nat) (c : Bool) (h : chgV s i c = true) : chgV s i (!c) = false := by
  cases c with
  | false =>
    unfold chgV at h ⊢
    rw [if_neg (by decide)] at h
    rw [if_pos (by decide)]
    by_cases z : strBV s i = strCV s i + 1
    · rw [if_neg (by omega)]
      exact decide_eq_false (by omega)
    · rw [if_neg z] at h
      have := of_decide_eq_true h
      rw [if_neg (by omega)]
      exact decide_eq_false (by omega)
  | true =>
    unfold chgV at h ⊢
    rw [if_pos rfl] at h
    rw [if_neg (by decide)]
    by_cases z : strCV s i = strBV s i + 1
    · rw [if_neg (by omega)]
      exact decide_eq_false (by omega)
    · rw [if_neg z] at h
      have := of_decide_eq_true h
      rw [if_neg (by omega)]
      exact decide_eq_false (by omega)
theorem strB_rg (s : List Int) (i : Nat) : 1 ≤ strBV s i ∧ strBV s i ≤ 1 + s.length := by
  have := costs_rg (s.drop (i + 1))
  simp only [List.length_drop] at this
  unfold strBV
  omega
theorem bic_mark {s : List Int} {i : Nat} : bicV s i = (if lAt s i = 29 then 1 else if digB s i 2 = true then 2 else 0) := rfl
theorem no_bic {s : List Int} {i : Nat} (hs : s.length ≤ 48) (h : bicV s i = 0) : chgV s i true = true ∧ chgV s i false = false := by
  have b := strB_rg s i
  have e : strCV s i = 1000000 := by unfold strCV; rw [if_pos h]
  unfold chgV
  refine ⟨?_, ?_⟩
  · rw [if_pos rfl, e, if_neg (by omega)]
    exact decide_eq_true (by omega)
  · rw [if_neg (show ¬ (false = true) by decide), e, if_neg (by omega)]
    exact decide_eq_false (by omega)
theorem two_dig {s : List Int} {i : Nat} (h : digB s i 2 = true) : 0 ≤ twoAt s i ∧ twoAt s i ≤ 99 ∧ i + 2 ≤ s.length := by
  have l := dig_len (t := s) (P := i) (k := 2) h
  exact ⟨two_nn l h, (twoAt_rg (s := s) (f := i)).2, l⟩
theorem encF_ok {s : List Int} (hs : s.length ≤ 48) (hb : okB s) : ∀ n i c, ∀ x ∈ encF s n i c, 0 ≤ x ∧ x < 106
  | 0, _, _ => by simp [encF]
  | n + 1, i, c => by
    intro x hx
    unfold encF at hx
    split at hx
    · simp at hx
    · rename_i hi
      split at hx
      · rcases List.mem_cons.mp hx with e | e
        · rw [e]; split <;> decide
        · exact encF_ok hs hb n i (!c) x e
      · rename_i hch
        rcases List.mem_cons.mp hx with e | e
        · have bb := hb.at (i := i) (by omega)
          rw [e]
          unfold chrV
          by_cases z : lAt s i = 29
          · rw [if_pos z]; decide
          · rw [if_neg z]
            cases c with
            | false => rw [if_neg (by decide)]; omega
            | true =>
              rw [if_pos rfl]
              have nb : bicV s i ≠ 0 := fun q => hch (no_bic hs q).1
              rw [bic_mark, if_neg z] at nb
              have hd : digB s i 2 = true := by
                cases q : digB s i 2 with
                | true => rfl
                | false => rw [q] at nb; exact absurd rfl nb
              have := two_dig hd
              omega
        · exact encF_ok hs hb n _ c x e
theorem encP_ok {s : List Int} (hs : s.length ≤ 48) (hb : okB s) : ∀ x ∈ encP s, 0 ≤ x ∧ x < 106 := fun x hx => by
  unfold encP at hx
  rcases List.mem_append.mp hx with e | e
  · have b := b2i_rg (encS s)
    rcases List.mem_cons.mp e with e | e
    · omega
    · rw [List.mem_singleton.mp e]; decide
  · exact encF_ok hs hb 96 0 _ x e
theorem encV_ok {s : List Int} (hs : s.length ≤ 48) (hb : okB s) : symOk (encV s) := by
  refine Or.inr ⟨encP s ++ [chkV (encP s) (encP s).length], by unfold encV; simp, fun x hx => ?_⟩
  rcases List.mem_append.mp hx with e | e
  · exact encP_ok hs hb x e
  · rw [List.mem_singleton.mp e]
    unfold chkV
    omega
section MSy
variable {d m : Nat} {h : jH} {Q : jO → jH → Prop} {s : List Int}
def mStr (h : jH) (m : Nat) (s : List Int) : Prop := ∀ i : Nat, i < s.length → hA h (m + 26) (i : Int) = s.getD i 0
theorem n_byteAt {i : Nat} (H : mSh h m) (S : mStr h m s) (hs : s.length ≤ 48) (hi : i < s.length) (k : Q (.inl (some (jI (s.getD i 0)))) h) : jCall d mX11_byteAt [jR m, jI i] h Q := by
  refine bX11_byteAt (fun _ _ => ⟨H.k, ?_⟩)
  rw [H.r841, H.k841, H.n841, S i hi]
  exact ⟨.refl _, by omega, by omega, fun _ => k⟩
theorem n_pairAt {i : Nat} (H : mSh h m) (S : mStr h m s) (hs : s.length ≤ 48) (hi : i < s.length) (k : Q (.inl (some (jI (twoAt s i)))) h) : jCall (d + 1) mX11_pairAt [jR m, jI i, jI s.length] h Q := by
  have no : digB s i 2 = false → Q (.inl (some (jI (-1)))) h := fun z => by
    unfold twoAt at k
    rw [if_neg (by rw [z]; decide)] at k
    exact k
  refine bX11_pairAt (fun _ _ _ => ⟨⟨by omega, by omega⟩, fun z => no (digB2n (by omega)), fun z => ⟨H.k, n_byteAt H S hs hi ⟨_, rfl, n_isDigit ⟨_, rfl, fun w => no ?_, fun w => ⟨⟨by omega, by omega⟩, H.k, ?_⟩⟩⟩⟩⟩)
  · rw [digB2 (by omega), (b2i_eq _).mp w]; rfl
  · have w1 := (b2i_ne _).mp w
    have c1 := isD_rg w1
    rw [show (i : Int) + 1 = ((i + 1 : Nat) : Int) by omega]
    refine n_byteAt H S hs (by omega) ⟨_, rfl, n_isDigit ⟨_, rfl, fun w2 => no ?_, fun w2 => ⟨H.k, n_byteAt H S hs hi ⟨_, rfl, ⟨by omega, by omega⟩, ⟨by omega, by omega⟩, ⟨by omega, by omega⟩, H.k, ?_⟩⟩⟩⟩
    · rw [digB2 (by omega), (b2i_eq _).mp w2, Bool.and_false]
    · have w2' := (b2i_ne _).mp w2
      have c2 := isD_rg w2'
      refine n_byteAt H S hs (by omega) ⟨_, rfl, ⟨by omega, by omega⟩, ⟨by omega, by omega⟩, ?_⟩
      unfold twoAt at k
      rw [if_pos (by rw [digB2 (by omega), w1, w2']; rfl), Int.toNat_natCast] at k
      rw [Int.mul_comm 10]
      exact k
theorem n_few_204 {k n : Nat} {b c bW cW : Int} {lB lC : Bool} (hk : k < 48) (H : mSh h m) (hb : 0 ≤ b ∧ b < 2000) (hc : 0 ≤ c ∧ c < 2000) (kk : jWp (d + 1) mX11_fewest 24 [(0, jR m), (1, jI n), (2, jI ((k : Int) - 1))] [] (sA (sA (sA (sA h (m + 24) (2 * k) (if lB = true then c + 1 else b)) (m + 25) (2 * k) (if lB = true then 99 else bW)) (m + 24) (2 * (k : Int) + 1) (if lC = true then b + 1 else c)) (m + 25) (2 * (k : Int) + 1) (if lC = true then 100 else cW)) Q) : jWp (d + 1) mX11_fewest 204 [(0, jR m), (1, jI n), (2, jI k), (5, jI b), (6, jI bW), (7, jI c), (8, jI cW), (9, jI (b2i lB))] [jI (b2i lC)] h Q := by
  have s293 : ∀ (h1 : jH) (v : Int), mSh h1 m → jWp (d + 1) mX11_fewest 24 [(0, jR m), (1, jI n), (2, jI ((k : Int) - 1))] [] (sA h1 (m + 25) (2 * (k : Int) + 1) v) Q → jWp (d + 1) mX11_fewest 293 [(0, jR m), (1, jI n), (2, jI k)] [jI v, jI (2 * (k : Int) + 1), jR (m + 25)] h1 Q := fun h1 v H1 k1 => by
    refine bX11_fewest_293 (fun _ _ _ => ?_)
    rw [H1.k840, H1.n840]
    exact ⟨.refl _, by omega, by omega, ⟨by omega, by omega⟩, k1⟩
  have s271 : ∀ (h1 : jH) (v : Int), mSh h1 m → jWp (d + 1) mX11_fewest 24 [(0, jR m), (1, jI n), (2, jI ((k : Int) - 1))] [] (sA (sA h1 (m + 24) (2 * (k : Int) + 1) v) (m + 25) (2 * (k : Int) + 1) (if lC = true then 100 else cW)) Q → jWp (d + 1) mX11_fewest 271 [(0, jR m), (1, jI n), (2, jI k), (8, jI cW), (10, jI (b2i lC))] [jI v, jI (2 * (k : Int) + 1), jR (m + 24)] h1 Q := fun h1 v H1 k1 => by
    refine bX11_fewest_271 (fun _ _ _ _ _ => ?_)
    rw [H1.k839, H1.n839, H1.r840]
    have H2 : mSh (sA h1 (m + 24) (2 * (k : Int) + 1) v) m := H1
    refine ⟨.refl _, by omega, by omega, H1.k, ⟨by omega, by omega⟩, ⟨by omega, by omega⟩, fun z => s293 _ _ H2 ?_, fun z => s293 _ _ H2 ?_⟩
    · rw [(b2i_eq _).mp z, if_neg (by decide)] at k1; exact k1
    · rw [(b2i_ne _).mp z, if_pos rfl] at k1; exact k1
  have s247 : ∀ (h1 : jH) (v : Int), mSh h1 m → jWp (d + 1) mX11_fewest 24 [(0, jR m), (1, jI n), (2, jI ((k : Int) - 1))] [] (sA (sA (sA h1 (m + 25) (2 * k) v) (m + 24) (2 * (k : Int) + 1) (if lC = true then b + 1 else c)) (m + 25) (2 * (k : Int) + 1) (if lC = true then 100 else cW)) Q → jWp (d + 1) mX11_fewest 247 [(0, jR m), (1, jI n), (2, jI k), (5, jI b), (7, jI c), (8, jI cW), (10, jI (b2i lC))] [jI v, jI (2 * (k : Int)), jR (m + 25)] h1 Q := fun h1 v H1 k1 => by
    refine bX11_fewest_247 (fun _ _ _ _ _ _ _ => ?_)
    rw [H1.k840, H1.n840, H1.r839]
    have H2 : mSh (sA h1 (m + 25) (2 * (k : Int)) v) m := H1
    refine ⟨.refl _, by omega, by omega, H1.k, ⟨by omega, by omega⟩, ⟨by omega, by omega⟩, fun z => s271 _ _ H2 ?_, fun z => ⟨⟨by omega, by omega⟩, s271 _ _ H2 ?_⟩⟩
    · rw [if_neg (by rw [(b2i_eq _).mp z]; decide)] at k1; exact k1
    · rw [if_pos ((b2i_ne _).mp z)] at k1; exact k1
  refine bX11_fewest_204 (fun _ _ _ _ _ _ _ _ => ⟨H.k, ⟨by omega, by omega⟩, ?_⟩)
  rw [H.r839, H.k839, H.n839, H.r840]
  refine ⟨fun z => ⟨.refl _, by omega, by omega, fun _ => s247 _ _ H ?_, fun w => absurd z w⟩, fun z => ⟨⟨by omega, by omega⟩, .refl _, by omega, by omega, fun w => absurd w z, fun _ => s247 _ _ H ?_⟩⟩
  · rw [if_neg (by rw [(b2i_eq _).mp z]; decide), if_neg (by rw [(b2i_eq _).mp z]; decide)] at kk; exact kk
  · rw [if_pos ((b2i_ne _).mp z), if_pos ((b2i_ne _).mp z)] at kk; exact kk
theorem n_few_127 {k n : Nat} {b c bW cW mk pr : Int} (hk : k < 48) (H : mSh h m) (hb : 0 ≤ b ∧ b < 2000) (hc : 0 ≤ c ∧ c < 2000) (ec : cW = if mk = 0 then pr else 102) (kk : jWp (d + 1) mX11_fewest 24 [(0, jR m), (1, jI n), (2, jI ((k : Int) - 1))] [] (sA (sA (sA (sA h (m + 24) (2 * k) (if decide (c + 1 < b ∨ (c + 1 = b ∧ 99 < bW)) = true then c + 1 else b)) (m + 25) (2 * k) (if decide (c + 1 < b ∨ (c + 1 = b ∧ 99 < bW)) = true then 99 else bW)) (m + 24) (2 * (k : Int) + 1) (if decide (b + 1 < c ∨ (b + 1 = c ∧ 100 < cW)) = true then b + 1 else c)) (m + 25) (2 * (k : Int) + 1) (if decide (b + 1 < c ∨ (b + 1 = c ∧ 100 < cW)) = true then 100 else cW)) Q) : jWp (d + 1) mX11_fewest 127 [(0, jR m), (1, jI n), (2, jI k), (3, jI mk), (4, jI pr), (5, jI b), (6, jI bW)] [jI c] h Q := by
  have s204 := fun (lB lC : Bool) (eB : lB = decide (c + 1 < b ∨ (c + 1 = b ∧ 99 < bW))) (eC : lC = decide (b + 1 < c ∨ (b + 1 = c ∧ 100 < cW))) => n_few_204 (d := d) (Q := Q) (n := n) (bW := bW) (cW := cW) (lB := lB) (lC := lC) hk H hb hc (by rw [eB, eC]; exact kk)
  have s172 : ∀ (lB : Bool), lB = decide (c + 1 < b ∨ (c + 1 = b ∧ 99 < bW)) → jWp (d + 1) mX11_fewest 172 [(0, jR m), (1, jI n), (2, jI k), (5, jI b), (6, jI bW), (7, jI c), (8, jI cW)] [jI (b2i lB)] h Q := fun lB eB => by
    have y : (b + 1 < c ∨ (b + 1 = c ∧ 100 < cW)) → jWp (d + 1) mX11_fewest 199 [(0, jR m), (1, jI n), (2, jI k), (5, jI b), (6, jI bW), (7, jI c), (8, jI cW), (9, jI (b2i lB))] [] h Q := fun z => bX11_fewest_199 (fun _ _ _ _ _ _ _ _ => s204 lB true eB (decide_eq_true z).symm)
    have x : ¬ (b + 1 < c ∨ (b + 1 = c ∧ 100 < cW)) → jWp (d + 1) mX11_fewest 203 [(0, jR m), (1, jI n), (2, jI k), (5, jI b), (6, jI bW), (7, jI c), (8, jI cW), (9, jI (b2i lB))] [] h Q := fun z => bX11_fewest_203 (fun _ _ _ _ _ _ _ _ => s204 lB false eB (decide_eq_false z).symm)
    exact bX11_fewest_172 (fun _ _ _ _ _ _ _ => ⟨⟨by omega, by omega⟩, fun z => y (Or.inl z), fun z => ⟨fun z2 => x (by omega), fun z2 => ⟨fun z3 => x (by omega), fun z3 => y (by omega)⟩⟩⟩)
  have y : (c + 1 < b ∨ (c + 1 = b ∧ 99 < bW)) → jWp (d + 1) mX11_fewest 167 [(0, jR m), (1, jI n), (2, jI k), (5, jI b), (6, jI bW), (7, jI c), (8, jI cW)] [] h Q := fun z => bX11_fewest_167 (fun _ _ _ _ _ _ _ => s172 true (decide_eq_true z).symm)
  have x : ¬ (c + 1 < b ∨ (c + 1 = b ∧ 99 < bW)) → jWp (d + 1) mX11_fewest 171 [(0, jR m), (1, jI n), (2, jI k), (5, jI b), (6, jI bW), (7, jI c), (8, jI cW)] [] h Q := fun z => bX11_fewest_171 (fun _ _ _ _ _ _ _ => s172 false (decide_eq_false z).symm)
  refine bX11_fewest_127 (fun _ _ _ _ _ _ _ => ⟨fun z0 => ?_, fun z0 => ?_⟩)
  · rw [if_pos z0] at ec
    subst ec
    exact ⟨⟨by omega, by omega⟩, fun z => y (Or.inl z), fun z => ⟨fun z2 => x (by omega), fun z2 => ⟨fun z3 => x (by omega), fun z3 => y (by omega)⟩⟩⟩
  · rw [if_neg z0] at ec
    subst ec
    exact ⟨⟨by omega, by omega⟩, fun z => y (Or.inl z), fun z => ⟨fun z2 => x (by omega), fun z2 => ⟨fun z3 => x (by omega), fun z3 => y (by omega)⟩⟩⟩
def mCst (h : jH) (m : Nat) (s : List Int) (i : Nat) : Prop := (∀ j : Nat, i ≤ j → j ≤ s.length → hA h (m + 24) (2 * (j : Int)) = (costs (s.drop j)).1 ∧ hA h (m + 24) (2 * (j : Int) + 1) = (costs (s.drop j)).2) ∧ ∀ j : Nat, i ≤ j → j < s.length → hA h (m + 25) (2 * (j : Int)) = (if chgV s j false = true then 99 else chrV s j false) ∧ hA h (m + 25) (2 * (j : Int) + 1) = (if chgV s j true = true then 100 else chrV s j true)
theorem n_few_loop (hs : s.length ≤ 48) (hb : okB s) (n : Nat) : ∀ h : jH, n ≤ s.length → mSh h m → mStr h m s → mCst h m s n → (∀ h', mFr m [] [24, 25] h h' → mCst h' m s 0 → Q (.inl none) h') → jWp (d + 2) mX11_fewest 24 [(0, jR m), (1, jI s.length), (2, jI ((n : Int) - 1))] [] h Q := by
  induction n with
  | zero =>
    intro h hn H S C k
    exact bX11_fewest_24 (fun _ _ _ => ⟨fun _ => k h .rfl C, fun z => by omega⟩)
  | succ n ih =>
    intro h hn H S C k
    have bb := hb.at (i := n) (by omega)
    have el : lAt s n = s.getD n 0 := lAt_get (by omega)
    have c1 := C.1 (n + 1) (Nat.le_refl _) (by omega)
    have eb : strBV s n = 1 + (costs (s.drop (n + 1))).1 := rfl
    have br := strB_rg s n
    have cr := bicV_rg s n
    have cat := costs_at (s := s) (i := n) (by omega)
    -- the two costs and what they lead to
    have fin : ∀ c : Int, c = (if bicV s n = 0 then 1000 else strCV s n) → (if decide (c + 1 < strBV s n ∨ (c + 1 = strBV s n ∧ 99 < chrV s n false)) = true then c + 1 else strBV s n) = (costs (s.drop n)).1 ∧ (decide (c + 1 < strBV s n ∨ (c + 1 = strBV s n ∧ 99 < chrV s n false)) = chgV s n false) ∧ (if decide (strBV s n + 1 < c ∨ (strBV s n + 1 = c ∧ 100 < chrV s n true)) = true then strBV s n + 1 else c) = (costs (s.drop n)).2 ∧ (decide (strBV s n + 1 < c ∨ (strBV s n + 1 = c ∧ 100 < chrV s n true)) = chgV s n true) ∧ 0 ≤ c ∧ c < 2000 := fun c ec => by
      rw [cat]
      by_cases z : bicV s n = 0
      · rw [if_pos z] at ec
        have nb := no_bic hs z
        have e : strCV s n = 1000000 := by unfold strCV; rw [if_pos z]
        rw [nb.1, nb.2, e, decide_eq_false (by omega), decide_eq_true (by omega), if_neg (by decide), if_pos rfl]
        refine ⟨?_, rfl, ?_, rfl, by omega, by omega⟩
        · show _ = min _ _; omega
        · show _ = min _ _; omega
      · rw [if_neg z] at ec
        subst ec
        have r2 := costs_rg (s.drop (n + bicV s n))
        simp only [List.length_drop] at r2
        have e : strCV s n = 1 + (costs (s.drop (n + bicV s n))).2 := by unfold strCV; rw [if_neg z]
        have x1 : decide (strCV s n + 1 < strBV s n ∨ (strCV s n + 1 = strBV s n ∧ 99 < chrV s n false)) = chgV s n false := by
          unfold chgV
          rw [if_neg (by decide)]
          by_cases q : strBV s n = strCV s n + 1
          · rw [if_pos q]; exact decide_eq_decide.mpr (by omega)
          · rw [if_neg q]; exact decide_eq_decide.mpr (by omega)
        have x2 : decide (strBV s n + 1 < strCV s n ∨ (strBV s n + 1 = strCV s n ∧ 100 < chrV s n true)) = chgV s n true := by
          unfold chgV
          rw [if_pos rfl]
          by_cases q : strCV s n = strBV s n + 1
          · rw [if_pos q]; exact decide_eq_decide.mpr (by omega)
          · rw [if_neg q]; exact decide_eq_decide.mpr (by omega)
        refine ⟨?_, x1, ?_, x2, by omega, by omega⟩
        · by_cases q : strCV s n + 1 < strBV s n ∨ (strCV s n + 1 = strBV s n ∧ 99 < chrV s n false)
          · rw [decide_eq_true q, if_pos rfl]; simp only; omega
          · rw [decide_eq_false q, if_neg (by decide)]; simp only; omega
        · by_cases q : strBV s n + 1 < strCV s n ∨ (strBV s n + 1 = strCV s n ∧ 100 < chrV s n true)
          · rw [decide_eq_true q, if_pos rfl]; simp only; omega
          · rw [decide_eq_false q, if_neg (by decide)]; simp only; omega
    have go : ∀ c mk pr : Int, c = (if bicV s n = 0 then 1000 else strCV s n) → chrV s n true = (if mk = 0 then pr else 102) → jWp (d + 2) mX11_fewest 127 [(0, jR m), (1, jI s.length), (2, jI n), (3, jI mk), (4, jI pr), (5, jI (strBV s n)), (6, jI (chrV s n false))] [jI c] h Q := fun c mk pr ec epr => by
      have F := fin c ec
      refine n_few_127 (d := d + 1) (n := s.length) (by omega) H ⟨by omega, by omega⟩ ⟨F.2.2.2.2.1, F.2.2.2.2.2⟩ epr ?_
      rw [F.1, F.2.2.1, F.2.1, F.2.2.2.1]
      have f4 : mFr m [] [24, 25] h (sA (sA (sA (sA h (m + 24) (2 * n) (costs (s.drop n)).1) (m + 25) (2 * n) (if chgV s n false = true then 99 else chrV s n false)) (m + 24) (2 * (n : Int) + 1) (costs (s.drop n)).2) (m + 25) (2 * (n : Int) + 1) (if chgV s n true = true then 100 else chrV s n true)) := (((mFr.rfl.sA (by decide)).sA (by decide)).sA (by decide)).sA (by decide)
      refine ih _ (by omega) (f4.sh H) (fun j hj => (f4.a (by decide) _).trans (S j hj)) ⟨fun j h1 h2 => ?_, fun j h1 h2 => ?_⟩ (fun h' p C' => k h' (f4.trans p) C')
      · by_cases e : j = n
        · subst e
          refine ⟨?_, ?_⟩
          · rw [hA_sA, if_neg (by omega), hA_sA, if_neg (by omega), hA_sA, if_neg (by omega), hA_sA, if_pos ⟨.refl _, .refl _⟩]
          · rw [hA_sA, if_neg (by omega), hA_sA, if_pos ⟨.refl _, .refl _⟩]
        · refine ⟨?_, ?_⟩
          · rw [hA_sA, if_neg (by omega), hA_sA, if_neg (by omega), hA_sA, if_neg (by omega), hA_sA, if_neg (by omega)]
            exact (C.1 j (by omega) h2).1
          · rw [hA_sA, if_neg (by omega), hA_sA, if_neg (by omega), hA_sA, if_neg (by omega), hA_sA, if_neg (by omega)]
            exact (C.1 j (by omega) h2).2
      · by_cases e : j = n
        · subst e
          refine ⟨?_, ?_⟩
          · rw [hA_sA, if_neg (by omega), hA_sA, if_neg (by omega), hA_sA, if_pos ⟨.refl _, .refl _⟩]
          · rw [hA_sA, if_pos ⟨.refl _, .refl _⟩]
        · refine ⟨?_, ?_⟩
          · rw [hA_sA, if_neg (by omega), hA_sA, if_neg (by omega), hA_sA, if_neg (by omega), hA_sA, if_neg (by omega)]
            exact (C.2 j (by omega) h2).1
          · rw [hA_sA, if_neg (by omega), hA_sA, if_neg (by omega), hA_sA, if_neg (by omega), hA_sA, if_neg (by omega)]
            exact (C.2 j (by omega) h2).2
    rw [show ((n + 1 : Nat) : Int) - 1 = n by omega]
    have i2 : (2 : Int) * (n : Int) + 2 = 2 * ((n + 1 : Nat) : Int) := by omega
    have i3 : (2 : Int) * (n : Int) + 3 = 2 * ((n + 1 : Nat) : Int) + 1 := by omega
    have i5 : (2 : Int) * (n : Int) + 5 = 2 * ((n + 2 : Nat) : Int) + 1 := by omega
    have r1 := costs_rg (s.drop (n + 1))
    have r2 := costs_rg (s.drop (n + 2))
    simp only [List.length_drop] at r1 r2
    refine bX11_fewest_24 (fun _ _ _ => ⟨fun z => by omega, fun z => ⟨H.k, n_byteAt H S hs (by omega) ⟨_, rfl, fun n29 => ⟨H.k, n_pairAt H S hs (by omega) ⟨_, rfl, H.k, ⟨by omega, by omega⟩, ⟨by omega, by omega⟩, ?_⟩⟩, fun e29 => ⟨H.k, n_pairAt H S hs (by omega) ⟨_, rfl, H.k, ⟨by omega, by omega⟩, ⟨by omega, by omega⟩, ?_⟩⟩⟩⟩⟩)
    · rw [H.r839, H.k839, H.n839, i2, c1.1]
      have cB : chrV s n false = s.getD n 0 - 32 := by unfold chrV; rw [el, if_neg n29, if_neg (by decide)]
      have cC : chrV s n true = twoAt s n := by unfold chrV; rw [el, if_neg n29, if_pos rfl]
      have bm : bicV s n = if digB s n 2 = true then 2 else 0 := by rw [bic_mark, el, if_neg n29]
      refine ⟨.refl _, by omega, by omega, fun _ => ⟨⟨by omega, by omega⟩, n_byteAt H S hs (by omega) ⟨_, rfl, ⟨by omega, by omega⟩, fun z2 => ?_, fun z2 => ⟨H.k, ⟨by omega, by omega⟩, ⟨by omega, by omega⟩, ?_⟩⟩⟩⟩
      · have hd : digB s n 2 = false := by
          cases q : digB s n 2 with
          | false => rfl
          | true => have := two_dig q; omega
        rw [hd, if_neg (by decide)] at bm
        rw [← eb, ← cB]
        exact go 1000 0 _ (by rw [if_pos bm]) (by rw [cC, if_pos rfl])
      · have hd : digB s n 2 = true := by
          cases q : digB s n 2 with
          | true => rfl
          | false => unfold twoAt at z2; rw [q, if_neg (by decide)] at z2; exact absurd (by decide) z2
        have hl := two_dig hd
        rw [hd, if_pos rfl] at bm
        have c2 := C.1 (n + 2) (by omega) hl.2.2
        rw [H.r839, H.k839, H.n839, i5, c2.2]
        refine ⟨.refl _, by omega, by omega, fun _ => ⟨⟨by omega, by omega⟩, ?_⟩⟩
        rw [← eb, ← cB]
        refine go _ 0 _ ?_ (by rw [cC, if_pos rfl])
        rw [if_neg (by omega)]
        unfold strCV
        rw [if_neg (by omega), bm]
    · rw [H.r839, H.k839, H.n839, i2, c1.1, i3, c1.2]
      have cB : chrV s n false = 102 := by unfold chrV; rw [el, if_pos e29]
      have cC : chrV s n true = 102 := by unfold chrV; rw [el, if_pos e29]
      have bm : bicV s n = 1 := by rw [bic_mark, el, if_pos e29]
      refine ⟨.refl _, by omega, by omega, fun _ => ⟨⟨by omega, by omega⟩, ⟨by omega, by omega⟩, by omega, by omega, fun _ => ⟨⟨by omega, by omega⟩, ?_⟩⟩⟩
      rw [← eb]
      have := go (1 + (costs (s.drop (n + 1))).2) 1 (twoAt s n) (by rw [if_neg (by omega)]; unfold strCV; rw [if_neg (by omega), bm]) (by rw [cC, if_neg (by decide)])
      rw [cB] at this
      exact this
theorem n_fewest (hs : s.length ≤ 48) (hb : okB s) (H : mSh h m) (S : mStr h m s) (k : ∀ h', mFr m [] [24, 25] h h' → mCst h' m s 0 → Q (.inl none) h') : jCall (d + 2) mX11_fewest [jR m, jI s.length] h Q := by
  refine bX11_fewest (fun _ _ => ⟨H.k, ⟨by omega, by omega⟩, ?_⟩)
  rw [H.r839, H.k839, H.n839]
  have f1 : mFr m [] [24, 25] h (sA (sA h (m + 24) (2 * (s.length : Int)) 0) (m + 24) (2 * (s.length : Int) + 1) 0) := (mFr.rfl.sA (by decide)).sA (by decide)
  refine ⟨.refl _, by omega, by omega, ⟨by omega, by omega⟩, by omega, by omega, ⟨by omega, by omega⟩, n_few_loop hs hb s.length _ (Nat.le_refl _) (f1.sh H) (fun j hj => (f1.a (by decide) _).trans (S j hj)) ⟨fun j h1 h2 => ?_, fun j h1 h2 => by omega⟩ (fun h' p C => k h' (f1.trans p) C)⟩
  have e : j = s.length := by omega
  subst e
  rw [List.drop_eq_nil_of_le (Nat.le_refl _)]
  refine ⟨?_, ?_⟩
  · rw [hA_sA, if_neg (by omega), hA_sA, if_pos ⟨.refl _, .refl _⟩]; rfl
  · rw [hA_sA, if_pos ⟨.refl _, .refl _⟩]; rfl
end MSy
