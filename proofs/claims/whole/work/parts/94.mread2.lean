/-! THE MODEL: parts looked at, values -/
theorem seg_getD {l : List Int} {f n i : Nat} (h : f + n ≤ l.length) (hi : i < n) : (seg l f n).getD i 0 = l.getD (f + i) 0 := by
  unfold seg
  rw [List.getD_eq_getElem?_getD, List.getD_eq_getElem?_getD, List.getElem?_take, if_pos hi, List.getElem?_drop]
theorem two_nn {l : List Int} {f : Nat} (h : f + 2 ≤ l.length) (hd : digB l f 2 = true) : 0 ≤ twoAt l f := by
  have g := hd
  rw [digB2 h, Bool.and_eq_true] at g
  have g1 := isD_rg g.1
  have g2 := isD_rg g.2
  unfold twoAt
  rw [if_pos hd, Int.toNat_natCast]
  omega
theorem twoAt_app {v w : List Int} {f : Nat} (h : f + 2 ≤ v.length) : twoAt (v ++ w) f = twoAt v f := by
  unfold twoAt
  rw [digB2 h, digB2 (by rw [List.length_append]; omega), Int.toNat_natCast, app_getL _ _ _ (by omega), app_getL _ _ _ (by omega)]
section MH
variable {d m : Nat} {h : jH} {Q : jO → jH → Prop} {t : List Int} {br : Bool} {p : Int}
theorem n_twoV {e : Int} {v : List Int} {f : Nat} (H : mSh h m) (he : 0 ≤ e ∧ e < 200) (l90 : v.length ≤ 90) (B : ∀ i : Nat, i < v.length → hA h (m + 15) (90 * e + i) = v.getD i 0) (hf : f + 2 ≤ v.length) (hd : digB v f 2 = true) (k : Q (.inl (some (jI (twoAt v f)))) h) : jCall d mX11_two [jR m, jI (90 * e + f)] h Q := by
  have g := hd
  rw [digB2 hf, Bool.and_eq_true] at g
  have g1 := isD_rg g.1
  have g2 := isD_rg g.2
  have v1 := B f (by omega)
  have v2 := B (f + 1) (by omega)
  unfold twoAt at k
  rw [if_pos hd, Int.toNat_natCast] at k
  refine bX11_two (fun _ _ => ⟨H.k, ?_⟩)
  rw [H.r817, H.k817, H.n817, v1, show 90 * e + (f : Int) + 1 = 90 * e + ((f + 1 : Nat) : Int) by omega, v2]
  refine ⟨.refl _, by omega, by omega, fun _ => ⟨⟨by omega, by omega⟩, ⟨by omega, by omega⟩, ⟨by omega, by omega⟩, by omega, by omega, fun _ => ⟨⟨by omega, by omega⟩, ⟨by omega, by omega⟩, ?_⟩⟩⟩
  rw [Int.mul_comm 10]
  exact k
theorem n_yearOf_loop {two : Int} (h0 : 0 ≤ two ∧ two < 100) (n : Nat) : ∀ y : Int, 0 ≤ y → y + n < 10000 → (n : Int) = (two - y) % 100 → Q (.inl (some (jI (y + n)))) h → jWp d mX11_yearOf 8 [(1, jI two), (2, jI y)] [] h Q := by
  induction n with
  | zero =>
    intro y y0 y1 hn k
    refine bX11_yearOf_8 (fun _ _ _ => ⟨y0, fun _ => ?_, fun z => by omega⟩)
    simpa using k
  | succ n ih =>
    intro y y0 y1 hn k
    refine bX11_yearOf_8 (fun _ _ _ => ⟨y0, fun z => by omega, fun z => ⟨⟨by omega, by omega⟩, ?_⟩⟩)
    refine ih (y + 1) (by omega) (by omega) (by omega) ?_
    rw [show y + 1 + (n : Int) = y + ((n + 1 : Nat) : Int) by omega]
    exact k
theorem n_yearOf {two clk : Int} (h0 : 0 ≤ two ∧ two < 100) (hc : 1950 ≤ clk ∧ clk ≤ 2200) (H : mSh h m) (g : hI h 822 m = clk) (k : Q (.inl (some (jI (yearV two clk)))) h) : jCall d mX11_yearOf [jR m, jI two] h Q := by
  refine bX11_yearOf (fun _ _ => ⟨H.k, ?_⟩)
  rw [g]
  refine fun _ => ⟨⟨by omega, by omega⟩, n_yearOf_loop h0 ((two - (clk - 49)) % 100).toNat _ (by omega) (by omega) (by omega) ?_⟩
  unfold yearV at k
  rw [show ((((two - (clk - 49)) % 100).toNat : Nat) : Int) = (two - (clk - 49)) % 100 by omega]
  exact k
/-- a part whose bytes are there -/
theorem n_holds {e clk part : Int} {fr : Nat} {b0 : Int} {v : List Int} (he : 0 ≤ e ∧ e < 200) (hc : 1950 ≤ clk ∧ clk ≤ 2200) (l90 : v.length ≤ 90) (S : mVS h m e t br clk v p) (P : mPl h m (part / 1000) fr b0 v p) (h3 : part / 1000 = 3 → fr + 2 ≤ v.length) (h4 : part / 1000 = 4 → v.length = fr + 6) (h5 : part / 1000 = 5 → v.length = fr + 4) (k1 : jpV v part fr b0 p clk = none → ∀ h', vFr m e h h' → hI h' 823 m = hI h 823 m → hI h' 824 m = hI h 824 m → mVS h' m e t br clk v p → (part / 1000 = 4 → hA h' (m + 14) (2 * e + (if fr = 0 then 0 else 1)) = yearV (twoAt v fr) clk) → (∀ i : Int, (part / 1000 = 4 → i ≠ 2 * e + (if fr = 0 then 0 else 1)) → hA h' (m + 14) i = hA h (m + 14) i) → Q (.inl (some (jI 1))) h') (k0 : ∀ a b, jpV v part fr b0 p clk = some (a, b) → ∀ h', vFr m e h h' → hI h' 823 m = a → hI h' 824 m = b → Q (.inl (some (jI 0))) h') : jCall (d + 1) mX11_holds [jR m, jI e, jI (part / 1000), jI fr, jI ((v.length : Int) - fr)] h Q := by
  obtain ⟨H, T, X, q4, q5, q6⟩ := id S
  obtain ⟨r1, r2, r3, r4, r5⟩ := P
  unfold jpV at k0 k1
  have dg2 : ∀ f : Nat, part / 1000 ≠ 2 → fr ≤ f → f + 2 ≤ v.length → digB v f 2 = true := fun f s2 h0 h1 => by
    rw [digB2 h1, Bool.and_eq_true]
    exact ⟨r5 s2 f h0 (by omega), r5 s2 (f + 1) (by omega) (by omega)⟩
  refine bX11_holds (fun _ _ _ _ _ => ⟨⟨by omega, by omega⟩, ⟨by omega, by omega⟩, fun n3 => ⟨fun n5 => ⟨fun e4 => ?_, fun n4 => ?_⟩, fun e5 => ?_⟩, fun e3 => ?_⟩)
  · -- a date
    have l4 := h4 e4
    have s2 : part / 1000 ≠ 2 := by omega
    have d0 := dg2 fr s2 (Nat.le_refl _) (by omega)
    have d2 := dg2 (fr + 2) s2 (by omega) (by omega)
    have d4 := dg2 (fr + 4) s2 (by omega) (by omega)
    have t0 := twoAt_rg (s := v) (f := fr)
    have t0' := two_nn (by omega) d0
    have t2 := twoAt_rg (s := v) (f := ((fr + 2 : Nat) : Int))
    have t4 := twoAt_rg (s := v) (f := ((fr + 4 : Nat) : Int))
    have t4' := two_nn (by omega) d4
    rw [if_neg (by omega), if_pos e4] at k1
    have y0 : 0 ≤ yearV (twoAt v fr) clk := by unfold yearV; omega
    have e2 : (fr : Int) + 2 = ((fr + 2 : Nat) : Int) := by omega
    have e4' : (fr : Int) + 4 = ((fr + 4 : Nat) : Int) := by omega
    have bad : ¬ (1 ≤ twoAt v ((fr + 2 : Nat) : Int) ∧ twoAt v ((fr + 2 : Nat) : Int) ≤ 12 ∧ 0 ≤ twoAt v ((fr + 4 : Nat) : Int) ∧ twoAt v ((fr + 4 : Nat) : Int) ≤ lastV (yearV (twoAt v fr) clk) (twoAt v ((fr + 2 : Nat) : Int))) → jWp (d + 1) mX11_holds 179 [(0, jR m), (3, jI fr)] [] h Q := fun z => by
      refine bX11_holds_179 (fun _ _ => ⟨H.k, ?_⟩)
      rw [H.r827, H.k827, H.n827, r3 (by omega)]
      have f0 := mVS.f0 (a := 6) (b := b0) S
      refine ⟨.refl _, by omega, by omega, fun _ => n_fault H ⟨_, rfl, by decide, k0 6 b0 ?_ _ f0.1 f0.2.1 f0.2.2⟩⟩
      rw [if_neg (by omega), if_pos e4]
      unfold dtB dateB
      rw [e2, e4', decide_eq_false z]
      rfl
    refine ⟨H.k, n_twoV H he l90 q6 (by omega) d0 ⟨_, rfl, H.k, n_yearOf ⟨t0', by omega⟩ hc H q5 ⟨_, rfl, ⟨by omega, by omega⟩, H.k, ?_⟩⟩⟩
    rw [show 90 * e + (fr : Int) + 2 = 90 * e + ((fr + 2 : Nat) : Int) by omega, show 90 * e + (fr : Int) + 4 = 90 * e + ((fr + 4 : Nat) : Int) by omega]
    refine n_twoV H he l90 q6 (by omega) d2 ⟨_, rfl, fun z => bad (by omega), fun z => ⟨fun z2 => bad (by omega), fun z2 => ⟨⟨by omega, by omega⟩, H.k, n_twoV H he l90 q6 (by omega) d4 ⟨_, rfl, n_daysOf y0 ⟨_, rfl, fun z3 => ⟨H.k, ⟨by omega, by omega⟩, ?_⟩, fun z3 => bad (by omega)⟩⟩⟩⟩⟩
    have kk := k1 (by unfold dtB dateB; rw [e2, e4', decide_eq_true ⟨by omega, by omega, t4', z3⟩]; rfl)
    rw [H.r816]
    have tail : ∀ c : Int, c = (if fr = 0 then 0 else 1) → jWp (d + 1) mX11_holds 208 [(6, jI (yearV (twoAt v fr) clk))] [jI c, jI (2 * e), jR (m + 14)] h Q := fun c ec => by
      have c01 : c = 0 ∨ c = 1 := by rw [ec]; split <;> simp
      refine bX11_holds_208 (fun _ _ => ?_)
      rw [H.k816, H.n816]
      refine ⟨⟨by omega, by omega⟩, .refl _, by omega, by omega, ?_⟩
      have f1 : mFr m [] [14] h (sA h (m + 14) (2 * e + c) (yearV (twoAt v fr) clk)) := mFr.rfl.sA (by decide)
      refine kk _ ⟨f1.mono (by decide) (by decide), fun e' he' => ⟨f1.a (by decide) _, f1.a (by decide) _, ?_, ?_, fun i _ => f1.a (by decide) _⟩⟩ rfl rfl ⟨f1.sh H, f1.tb T (by decide), f1.tx X (by decide), q4, q5, fun i hi => (f1.a (by decide) _).trans (q6 i hi)⟩ (fun _ => ?_) (fun i hi => ?_)
      · rw [hA_sA, if_neg (by omega)]
      · rw [hA_sA, if_neg (by omega)]
      · rw [hA_sA, if_pos ⟨.refl _, by rw [ec]⟩]
      · have := hi e4
        rw [← ec] at this
        rw [hA_sA, if_neg (fun w => this w.2)]
    exact ⟨fun z => tail 1 (by rw [if_neg (by omega)]), fun z => tail 0 (by rw [if_pos (by omega)])⟩
  · rw [if_neg n3, if_neg n4, if_neg n5] at k1
    exact k1 rfl h .rfl rfl rfl S (fun z => absurd z n4) (fun _ _ => rfl)
  · -- a time
    have l5 := h5 e5
    have s2 : part / 1000 ≠ 2 := by omega
    have d0 := dg2 fr s2 (Nat.le_refl _) (by omega)
    have d2 := dg2 (fr + 2) s2 (by omega) (by omega)
    have t0' := two_nn (by omega) d0
    have t2' := two_nn (by omega) d2
    have t2 := twoAt_rg (s := v) (f := ((fr + 2 : Nat) : Int))
    rw [if_neg n3, if_neg (by omega), if_pos e5] at k1
    have e2 : (fr : Int) + 2 = ((fr + 2 : Nat) : Int) := by omega
    have bad : ¬ (0 ≤ twoAt v fr ∧ twoAt v fr ≤ 23 ∧ 0 ≤ twoAt v ((fr + 2 : Nat) : Int) ∧ twoAt v ((fr + 2 : Nat) : Int) ≤ 59) → jWp (d + 1) mX11_holds 98 [(0, jR m), (3, jI fr)] [] h Q := fun z => by
      refine bX11_holds_98 (fun _ _ => ⟨H.k, ?_⟩)
      rw [H.r827, H.k827, H.n827, r3 (by omega)]
      have f0 := mVS.f0 (a := 6) (b := b0) S
      refine ⟨.refl _, by omega, by omega, fun _ => n_fault H ⟨_, rfl, fun _ => bX11_holds_118 (fun _ => ⟨by decide, k0 6 b0 ?_ _ f0.1 f0.2.1 f0.2.2⟩), fun w => absurd rfl w⟩⟩
      rw [if_neg n3, if_neg (by omega), if_pos e5]
      unfold tiB timeB
      rw [e2, decide_eq_false z]
      rfl
    refine ⟨H.k, n_twoV H he l90 q6 (by omega) d0 ⟨_, rfl, fun z => bad (by omega), fun z => ⟨⟨by omega, by omega⟩, H.k, ?_⟩⟩⟩
    rw [show 90 * e + (fr : Int) + 2 = 90 * e + ((fr + 2 : Nat) : Int) by omega]
    refine n_twoV H he l90 q6 (by omega) d2 ⟨_, rfl, fun z2 => bX11_holds_113 (fun _ => bX11_holds_118 (fun _ => ⟨by decide, ?_⟩)), fun z2 => bad (by omega)⟩
    exact k1 (by unfold tiB timeB; rw [e2, decide_eq_true ⟨t0', by omega, t2', by omega⟩]; rfl) h .rfl rfl rfl S (fun z => absurd z (by omega)) (fun _ _ => rfl)
  · -- a key
    have l3 := h3 e3
    have s2 : part / 1000 ≠ 2 := by omega
    have sl : (seg v fr (v.length - fr - 1)).length = v.length - fr - 1 := seg_len (by omega)
    have dl := isD_rg (r5 s2 (v.length - 1) (by omega) (by omega))
    have vl := q6 (v.length - 1) (by omega)
    have dq : digB v (fr : Int) ((v.length : Int) - 1 - fr) = true := by
      rw [show (v.length : Int) - 1 - fr = ((v.length - fr - 1 : Nat) : Int) by omega, digB_iff (by omega)]
      exact fun i hi => r5 s2 (fr + i) (by omega) (by omega)
    have kb : keyB v fr = decide (v.getD (v.length - 1) 0 - 48 = ckOf (seg v fr (v.length - fr - 1))) := by
      unfold keyB
      rw [if_pos dq, lAt_in (by omega) (by omega), show ((v.length : Int) - 1).toNat = v.length - 1 by omega, Int.toNat_natCast, show ((v.length : Int) - 1 - fr).toNat = v.length - fr - 1 by omega]
    rw [if_pos e3, kb] at k1
    refine ⟨H.k, ⟨by omega, by omega⟩, ?_⟩
    rw [show (v.length : Int) - fr - 1 = ((seg v fr (v.length - fr - 1)).length : Int) by rw [sl]; omega, H.r817]
    refine n_checkOf H.k817 (by omega) (by rw [sl, H.n817]; omega) (by omega) (fun i hi => ?_) (fun i hi => ?_) ⟨_, rfl, H.k, ⟨by omega, by omega⟩, ⟨by omega, by omega⟩, ?_⟩
    · rw [sl] at hi
      rw [seg_getD (by omega) (by omega), ← q6 (fr + i) (by omega)]
      congr 1
      omega
    · rw [sl] at hi
      rw [seg_getD (by omega) (by omega)]
      exact r5 s2 (fr + i) (by omega) (by omega)
    · rw [H.r817, H.k817, H.n817, show 90 * e + (fr : Int) + ((v.length : Int) - fr) - 1 = 90 * e + ((v.length - 1 : Nat) : Int) by omega, vl]
      refine ⟨.refl _, by omega, by omega, fun _ => ⟨⟨by omega, by omega⟩, fun z => ?_, fun z => ⟨⟨by omega, by omega⟩, ⟨by omega, by omega⟩, ?_⟩⟩⟩
      · refine bX11_holds_63 (fun _ => bX11_holds_68 (fun _ => ⟨by decide, k1 ?_ h .rfl rfl rfl S (fun z => absurd z (by omega)) (fun _ _ => rfl)⟩))
        rw [decide_eq_true z.symm]
        rfl
      · have pl := r4 (by omega) s2
        rw [H.r827, H.k827, H.n827, show (fr : Int) + ((v.length : Int) - fr) - 1 = (v.length : Int) - 1 by omega, pl]
        have f0 := mVS.f0 (a := 5) (b := p - 1) S
        refine ⟨.refl _, by omega, by omega, fun _ => n_fault H ⟨_, rfl, fun _ => bX11_holds_68 (fun _ => ⟨by decide, k0 5 (p - 1) ?_ _ f0.1 f0.2.1 f0.2.2⟩), fun w => absurd rfl w⟩⟩
        rw [if_pos e3, kb, decide_eq_false (fun w => z w.symm)]
        rfl
end MH
