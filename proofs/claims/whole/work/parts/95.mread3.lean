/-! THE MODEL: a value -/
def chk6 (n i j : Nat) : Bool := decide (psV (n : Int) (i : Int) ≠ 4 ∨ psV (n : Int) (j : Int) ≠ 4 ∨ j ≤ i ∨ i = 0)
theorem chk6_all : (List.range 65).all (fun n => (List.range 4).all (fun i => (List.range 4).all (fun j => chk6 n i j))) = true := by decide +kernel
theorem tabR6 (n : Nat) (hn : n < 65) (i : Nat) (hi : i < 4) (j : Nat) (hj : j < 4) : psV (n : Int) (i : Int) ≠ 4 ∨ psV (n : Int) (j : Int) ≠ 4 ∨ j ≤ i ∨ i = 0 := by
  have h1 := List.all_eq_true.mp chk6_all n (List.mem_range.mpr hn)
  have h2 := List.all_eq_true.mp h1 i (List.mem_range.mpr hi)
  have h3 := List.all_eq_true.mp h2 j (List.mem_range.mpr hj)
  exact of_decide_eq_true h3
theorem ps_lt {ln : Int} {i : Nat} (h : psV ln i = 4) : 0 ≤ ln ∧ i < 4 ∧ partV ln i ≠ 0 := by
  have z : partV ln i ≠ 0 := fun z => by unfold psV at h; rw [z] at h; omega
  have := partV_ln z
  exact ⟨by omega, by omega, z⟩
theorem pv_key {ln : Int} {J : Nat} {v : List Int} (H : pvI ln J v) {j : Int} (hj : pbV ln v.length j ≠ -1) : 0 ≤ j ∧ j.toNat < J ∧ pbV ln v.length j = sumM ln j.toNat ∧ sumM ln j.toNat < v.length := by
  obtain ⟨q1, q2, q3, q4, q5⟩ := H
  have pr := (pbV_rg (ln := ln) (len := v.length) (j := j)).2.2 hj
  have e : pbV ln v.length j = sumM ln j.toNat ∧ sumM ln j.toNat < v.length := by
    unfold pbV at hj ⊢
    split
    · rename_i z; rw [if_pos z] at hj; exact absurd rfl hj
    · rename_i z
      rw [if_neg z] at hj
      split
      · rename_i y; exact ⟨rfl, y⟩
      · rename_i y; rw [if_neg y] at hj; exact absurd rfl hj
  refine ⟨pr.2.2.1, ?_, e⟩
  by_cases c : j.toNat < J
  · exact c
  · have mo := sumM_mono ln J (j.toNat - J)
    rw [show J + (j.toNat - J) = j.toNat by omega] at mo
    omega
def mYr (h : jH) (m : Nat) (e ln : Int) (J : Nat) (v : List Int) (clk : Int) : Prop := ∀ i : Nat, i < J → psV ln i = 4 → sumM ln i < v.length → hA h (m + 14) (2 * e + (if sumM ln i = 0 then 0 else 1)) = yearV (twoAt v (sumM ln i)) clk
section MVl
variable {d m : Nat} {h : jH} {Q : jO → jH → Prop} {t : List Int} {br : Bool} {p : Int}
/-- an element is made -/
theorem n_value_288 {e a dg clk : Int} {v : List Int} {J : Nat} (he : 0 ≤ e ∧ e < 200) (hl : lineV a dg ≠ -1) (l90 : v.length ≤ 90) (S : mVS h m e t br clk v p) (V : pvI (lineV a dg) J v) (Y : mYr h m e (lineV a dg) J v clk) (k : ∀ h', vFr m e h h' → hI h' 823 m = hI h 823 m → hI h' 824 m = hI h 824 m → hI h' 825 m = p → mEl h' m e (a, dg, v, clk) → Q (.inl (some (jI 1))) h') : jWp (d + 2) mX11_value 288 [(0, jR m), (1, jI e), (2, jI (ixV a dg)), (4, jI v.length)] [] h Q := by
  obtain ⟨H, T, X, q4, q5, q6⟩ := S
  refine bX11_value_288 (fun _ _ _ _ => ⟨H.k, ?_⟩)
  rw [H.r814, H.k814, H.n814, H.r815, H.k815, H.n815]
  have f1 : mFr m [] [12, 13] h (sA (sA h (m + 12) e (ixV a dg)) (m + 13) e v.length) := (mFr.rfl.sA (by decide)).sA (by decide)
  refine ⟨.refl _, by omega, by omega, .refl _, by omega, k _ ⟨f1.mono (by decide) (by decide), fun e' he' => ⟨?_, ?_, f1.a (by decide) _, f1.a (by decide) _, fun i _ => f1.a (by decide) _⟩⟩ rfl rfl q4 ⟨hl, l90, ?_, ?_, fun i hi => (f1.a (by decide) _).trans (q6 i hi), fun j hs hj => ?_⟩⟩
  · rw [hA_sA, if_neg (by omega), hA_sA, if_neg (by omega)]
  · rw [hA_sA, if_neg (by omega), hA_sA, if_neg (by omega)]
  · rw [hA_sA, if_neg (by omega), hA_sA, if_pos ⟨.refl _, .refl _⟩]
  · rw [hA_sA, if_pos ⟨.refl _, .refl _⟩]
  · have K := pv_key V hj
    change psV (lineV a dg) j = 4 at hs
    have ej : ((j.toNat : Nat) : Int) = j := by omega
    have y := Y j.toNat K.2.1 (by rw [ej]; exact hs) K.2.2.2
    unfold yrP
    change hA _ (m + 14) (2 * e + if pbV (lineV a dg) v.length j = 0 then 0 else 1) = yearV (twoAt v (pbV (lineV a dg) v.length j)) clk
    rw [K.2.2.1, f1.a (by decide)]
    exact y
/-- behind the last part -/
theorem n_value_fin {e a dg clk : Int} {v : List Int} {J : Nat} (ok : okT t) (h0 : 0 ≤ p) (he : 0 ≤ e ∧ e < 200) (hl : lineV a dg ≠ -1) (l90 : v.length ≤ 90) (S : mVS h m e t br clk v p) (V : pvI (lineV a dg) J v) (Y : mYr h m e (lineV a dg) J v clk) (kf : ∀ h' x y, (finV t br a dg v p).2.2 = some (x, y) → vFr m e h h' → hI h' 823 m = x → hI h' 824 m = y → Q (.inl (some (jI 0))) h') (k1 : ∀ h', (finV t br a dg v p).2.2 = none → vFr m e h h' → hI h' 823 m = hI h 823 m → hI h' 824 m = hI h 824 m → hI h' 825 m = p → mEl h' m e (a, dg, v, clk) → Q (.inl (some (jI 1))) h') :
    (b2i (!br && fixV a dg) ≠ 0 → jWp (d + 2) mX11_value 288 [(0, jR m), (1, jI e), (2, jI (ixV a dg)), (4, jI v.length)] [] h Q) ∧ (b2i (!br && fixV a dg) = 0 → hK h m = 9 ∧ jCall (d + 1) mX11_ended [jR m] h (fun o h272 => ∃ v272, o = .inl (some (jI v272)) ∧ ((v272 ≠ 0 → jWp (d + 2) mX11_value 288 [(0, jR m), (1, jI e), (2, jI (ixV a dg)), (4, jI v.length)] [] h272 Q) ∧ (v272 = 0 → hK h272 m = 9 ∧ (j32 (hI h272 825 m) → jCall (d + 1) mX11_fault [jR m, jI 3, jI (hI h272 825 m)] h272 (fun o h284 => ∃ v284, o = .inl (some (jI v284)) ∧ (0 ≤ v284 ∧ v284 ≤ 1) ∧ Q (.inl (some (jI v284))) h284)))))) := by
  unfold finV at kf k1
  simp only at kf k1
  have H := S.1
  refine ⟨fun z => ?_, fun z => ⟨H.k, n_ended h0 ok H S.2.2.1 S.2.2.2.1 ⟨_, rfl, fun w => ?_, fun w => ⟨H.k, ?_⟩⟩⟩⟩
  · rw [if_pos (by rw [(b2i_ne _).mp z]; rfl)] at k1
    exact n_value_288 he hl l90 S V Y (fun h' f g1 g2 g3 E => k1 h' rfl f g1 g2 g3 E)
  · rw [if_pos (by rw [(b2i_ne _).mp w, Bool.or_true])] at k1
    exact n_value_288 he hl l90 S V Y (fun h' f g1 g2 g3 E => k1 h' rfl f g1 g2 g3 E)
  · rw [if_neg (by rw [(b2i_eq _).mp z, (b2i_eq _).mp w]; decide)] at kf
    rw [S.2.2.2.1]
    have f0 := mVS.f0 (a := 3) (b := p) S
    exact fun _ => n_fault H ⟨_, rfl, by decide, kf _ 3 p rfl f0.1 f0.2.1 f0.2.2⟩
theorem n_value_loop {e a dg clk : Int} (ok : okT t) (he : 0 ≤ e ∧ e < 200) (hl : lineV a dg ≠ -1) (hc : 1950 ≤ clk ∧ clk ≤ 2200) (f : Nat) : ∀ (j : Nat) (v : List Int) (p : Int) (h : jH), j + f = 4 → 0 ≤ p → p ≤ t.length → mVS h m e t br clk v p → pvI (lineV a dg) j v → mYr h m e (lineV a dg) j v clk → (∀ h' x y, (rvF t br clk a dg f j v p).2.2 = some (x, y) → vFr m e h h' → hI h' 823 m = x → hI h' 824 m = y → Q (.inl (some (jI 0))) h') → (∀ h', (rvF t br clk a dg f j v p).2.2 = none → vFr m e h h' → hI h' 823 m = hI h 823 m → hI h' 824 m = hI h 824 m → hI h' 825 m = (rvF t br clk a dg f j v p).2.1 → 0 ≤ (rvF t br clk a dg f j v p).2.1 → (rvF t br clk a dg f j v p).2.1 ≤ t.length → mEl h' m e (a, dg, (rvF t br clk a dg f j v p).1, clk) → Q (.inl (some (jI 1))) h') → jWp (d + 2) mX11_value 32 [(0, jR m), (1, jI e), (2, jI (ixV a dg)), (3, jI (b2i (!br && fixV a dg))), (4, jI v.length), (5, jI (aF (ixV a dg) + j))] [] h Q := by
  have u := tabX hl
  have lr := lineV_rg a dg
  have s4 := sumM4 (lineV a dg).toNat (by have := u.1; by_cases c : lineV a dg < 0 <;> omega)
  have ln0 : 0 ≤ lineV a dg := by omega
  rw [show (((lineV a dg).toNat : Nat) : Int) = lineV a dg by omega] at s4
  induction f with
  | zero =>
    intro j v p h hj h0 hp S V Y kf k1
    have H := S.1
    have tb := S.2.1.2.2.1 (ixV a dg) u.1 u.2.1
    have vl := V.2.1
    have sm := sumM_mono (lineV a dg) j (4 - j)
    rw [show j + (4 - j) = 4 by omega] at sm
    have fin := n_value_fin (d := d) (Q := Q) (p := p) ok h0 he hl (by omega) S V Y (fun h' x y r f a b => kf h' x y r f a b) (fun h' r f a b c E => k1 h' r f a b c h0 hp E)
    refine bX11_value_32 (fun _ _ _ _ _ _ => ⟨H.k, ?_⟩)
    rw [H.r804, H.k804, H.n804, H.r805, H.k805, H.n805, tb.2.2.2.1, tb.2.2.2.2]
    exact ⟨.refl _, u.1, by omega, fun _ => ⟨.refl _, by omega, fun _ => ⟨⟨by omega, by omega⟩, fun _ => ⟨fin.1, fun z => (fin.2 z).2⟩, fun z => by omega⟩⟩⟩
  | succ f ih =>
    intro j v p h hj h0 hp S V Y kf k1
    have H := S.1
    have tb := S.2.1.2.2.1 (ixV a dg) u.1 u.2.1
    have vl := V.2.1
    have sm := sumM_mono (lineV a dg) j (4 - j)
    rw [show j + (4 - j) = 4 by omega] at sm
    unfold rvF at kf k1
    have fin := fun (z : partV (lineV a dg) j = 0 ∨ (2 ≤ partV (lineV a dg) j % 10 ∧ ovB t br p = true)) => n_value_fin (d := d) (Q := Q) (p := p) ok h0 he hl (by omega) S V Y (fun h' x y r f a b => kf h' x y (by rw [if_pos z]; exact r) f a b) (fun h' r f a b c E => k1 h' (by rw [if_pos z]; exact r) f a b (by rw [if_pos z]; exact c) (by rw [if_pos z]; exact h0) (by rw [if_pos z]; exact hp) (by rw [if_pos z]; exact E))
    refine bX11_value_32 (fun _ _ _ _ _ _ => ⟨H.k, ?_⟩)
    rw [H.r804, H.k804, H.n804, H.r805, H.k805, H.n805, H.r810, H.k810, H.n810, tb.2.2.2.1, tb.2.2.2.2]
    refine ⟨.refl _, u.1, by omega, fun _ => ⟨.refl _, by omega, fun _ => ⟨⟨by omega, by omega⟩, fun z => ?_, fun z => ?_⟩⟩⟩
    · have := fin (Or.inl (tabQ hl (by omega)))
      exact ⟨this.1, fun z => (this.2 z).2⟩
    · have P := tabP hl (j := j) (by omega) (by omega)
      have tp := S.2.1.2.2.2.1 (aF (ixV a dg) + j) (by omega) (by omega)
      have mr := mostV_rg (p := partV (lineV a dg) j)
      have sn : sumM (lineV a dg) (j + 1) = sumM (lineV a dg) j + mostV (partV (lineV a dg) j) := rfl
      have sm1 := sumM_mono (lineV a dg) (j + 1) (4 - (j + 1))
      rw [show j + 1 + (4 - (j + 1)) = 4 by omega] at sm1
      have vj := V.2.2.1 P.1
      have tr := tabR P.1 lr.2
      have go : ¬ (2 ≤ partV (lineV a dg) j % 10 ∧ ovB t br p = true) → jWp (d + 2) mX11_value 74 [(0, jR m), (1, jI e), (2, jI (ixV a dg)), (3, jI (b2i (!br && fixV a dg))), (4, jI v.length), (5, jI (aF (ixV a dg) + j)), (6, jI v.length)] [] h Q := fun n2 => by
        have nz : ¬ (partV (lineV a dg) j = 0 ∨ (2 ≤ partV (lineV a dg) j % 10 ∧ ovB t br p = true)) := fun q => by
          rcases q with q | q
          · exact P.1 q
          · exact n2 q
        rw [if_neg nz] at kf k1
        have ri := rpF_inv t br (partV (lineV a dg) j) (mostV (partV (lineV a dg) j)).toNat 0 v p
        have rg := rpF_rg t br (partV (lineV a dg) j) (mostV (partV (lineV a dg) j)).toNat 0 v p
        refine n_part_loop (part := partV (lineV a dg) j) (fr := v.length) (b0 := p) ok he ⟨by omega, by omega⟩ P.2.1.symm P.2.2.1.symm P.2.2.2.1 (mostV (partV (lineV a dg) j)).toNat v p h (by omega) (by omega) h0 hp S ⟨Nat.le_refl _, fun _ => rfl, fun z => by omega, fun z => by omega, fun _ i a b => by omega⟩ ?_ ?_
        · rw [Nat.sub_self]
          generalize rpF t br (partV (lineV a dg) j) (mostV (partV (lineV a dg) j)).toNat 0 v p = rp at *
          intro h' x y r fr g1 g2
          exact kf h' x y (by rw [r]) fr g1 g2
        · rw [Nat.sub_self]
          generalize rpF t br (partV (lineV a dg) j) (mostV (partV (lineV a dg) j)).toNat 0 v p = rp at *
          intro h' r fr g1 g2 yy S' hp' P'
          obtain ⟨w, w1, w2, w3, w4⟩ := ri r
          have wl : rp.1.length = v.length + w.length := by rw [w1, List.length_append]
          simp only [r] at kf k1
          refine n_holds (p := rp.2.1) he hc (by omega) S' P' (fun e3 => ?_) (fun e4 => ?_) (fun e5 => ?_) (fun jn h2 f2 a1 a2 S2 y1 y2 => ⟨_, rfl, fun _ => ⟨⟨by omega, by omega⟩, ?_⟩, fun z => absurd z (by decide)⟩) (fun x y js h2 f2 a1 a2 => ⟨_, rfl, fun z => absurd rfl z, fun _ => ?_⟩)
          · have q := tr.2.2.2.2.1 e3
            have := w4 q.1
            omega
          · have q := tr.2.2.2.2.2.1 e4
            have := w4 q.1
            omega
          · have q := tr.2.2.2.2.2.2 e5
            have := w4 q.1
            omega
          · simp only [jn] at kf k1
            have V2 : pvI (lineV a dg) (j + 1) rp.1 := by
              rw [w1]
              exact pvI_step lr.2 V P.1 (by omega) w3 (fun ev => by have := w4 ev; omega)
            have f12 := fr.trans f2
            rw [show aF (ixV a dg) + (j : Int) + 1 = aF (ixV a dg) + ((j + 1 : Nat) : Int) by omega]
            refine ih (j + 1) rp.1 rp.2.1 h2 (by omega) (by omega) hp' S2 V2 (fun i hi hs hsl => ?_) (fun h3 x y q f3 b1 b2 => kf h3 x y q (f12.trans f3) b1 b2) (fun h3 q f3 b1 b2 b3 b4 b5 E => k1 h3 q (f12.trans f3) (b1.trans (a1.trans g1)) (b2.trans (a2.trans g2)) b3 b4 b5 E)
            by_cases ei : i = j
            · subst ei
              have := y1 hs
              rw [← vj]
              by_cases v0 : v.length = 0
              · rw [if_pos v0] at this
                rw [if_pos (by omega)]
                exact this
              · rw [if_neg v0] at this
                rw [if_neg (by omega)]
                exact this
            · have pl := ps_lt hs
              have e4 := (tabR pl.2.2 lr.2).2.2.2.2.2.1 hs
              have mo := sumM_mono (lineV a dg) (i + 1) (j - (i + 1))
              rw [show i + 1 + (j - (i + 1)) = j by omega] at mo
              have sni : sumM (lineV a dg) (i + 1) = sumM (lineV a dg) i + mostV (partV (lineV a dg) i) := rfl
              have s0 := sumM_rg (lineV a dg) i
              rw [y2 _ (fun q4 => ?_), yy]
              · rw [Y i (by omega) hs (by omega), w1]
                have es : sumM (lineV a dg) i = ((sumM (lineV a dg) i).toNat : Int) := by omega
                rw [es, twoAt_app (by omega)]
              · have t6 := tabR6 (lineV a dg).toNat (by omega) i (by omega) j (by omega)
                rw [show (((lineV a dg).toNat : Nat) : Int) = lineV a dg by omega] at t6
                have i0 : i = 0 := by
                  rcases t6 with t6 | t6 | t6 | t6
                  · exact absurd hs t6
                  · exact absurd q4 t6
                  · omega
                  · exact t6
                subst i0
                rw [if_pos (show sumM (lineV a dg) 0 = 0 from rfl), if_neg (show ¬ v.length = 0 by omega)]
                omega
          · simp only [js] at kf
            exact kf h2 x y rfl (fr.trans f2) a1 a2
      refine ⟨.refl _, by omega, by omega, ?_⟩
      rw [tp.2.2.2, P.2.2.2.2]
      refine fun _ => ⟨fun o0 => go (fun q => by rw [if_pos q.1] at o0; exact absurd o0 (by decide)), fun o1 => n_ended h0 ok H S.2.2.1 S.2.2.2.1 ⟨_, rfl, fun w => go (fun q => by rw [q.2] at w; exact absurd w (by decide)), fun w => ?_⟩⟩
      have ov := (b2i_ne _).mp w
      have o2 : 2 ≤ partV (lineV a dg) j % 10 := by
        by_cases c : 2 ≤ partV (lineV a dg) j % 10
        · exact c
        · rw [if_neg c] at o1; exact absurd rfl o1
      exact fin (Or.inr ⟨o2, ov⟩)
theorem n_value {e a dg clk : Int} (ok : okT t) (he : 0 ≤ e ∧ e < 200) (hl : lineV a dg ≠ -1) (hc : 1950 ≤ clk ∧ clk ≤ 2200) (h0 : 0 ≤ p) (hp : p ≤ t.length) (H : mSh h m) (T : mTb h m) (X : mTx h m t br) (g5 : hI h 825 m = p) (g2 : hI h 822 m = clk) (kf : ∀ h' x y, (rvF t br clk a dg 4 0 [] p).2.2 = some (x, y) → vFr m e h h' → hI h' 823 m = x → hI h' 824 m = y → Q (.inl (some (jI 0))) h') (k1 : ∀ h', (rvF t br clk a dg 4 0 [] p).2.2 = none → vFr m e h h' → hI h' 823 m = hI h 823 m → hI h' 824 m = hI h 824 m → hI h' 825 m = (rvF t br clk a dg 4 0 [] p).2.1 → 0 ≤ (rvF t br clk a dg 4 0 [] p).2.1 → (rvF t br clk a dg 4 0 [] p).2.1 ≤ t.length → mEl h' m e (a, dg, (rvF t br clk a dg 4 0 [] p).1, clk) → Q (.inl (some (jI 1))) h') : jCall (d + 2) mX11_value [jR m, jI e, jI (ixV a dg)] h Q := by
  have u := tabX hl
  have tb := T.2.2.1 (ixV a dg) u.1 u.2.1
  have S : mVS h m e t br clk [] p := ⟨H, T, X, g5, g2, fun i hi => absurd hi (by simp)⟩
  have main := n_value_loop (d := d) (m := m) (Q := Q) (br := br) ok he hl hc 4 0 [] p h rfl h0 hp S (pvI_zero _) (fun i hi => absurd hi (by omega)) kf k1
  simp only [List.length_nil, Int.natCast_zero, Int.add_zero] at main
  refine bX11_value (fun _ _ _ => ⟨H.k, ?_⟩)
  rw [X.2.2.2, H.r804, H.k804, H.n804, tb.2.2.2.1]
  refine fun _ => ⟨fun w => ⟨.refl _, u.1, by omega, fun _ => ?_⟩, fun w => n_isFixed H T u.1 u.2.1 ⟨_, rfl, fun v => ⟨H.k, ?_⟩, fun v => ⟨H.k, ?_⟩⟩⟩
  · have e := (b2i_ne _).mp w
    rw [e] at main
    exact main
  · have e := (b2i_eq _).mp w
    rw [u.2.2.1, u.2.2.2.1] at v
    rw [e, (b2i_eq _).mp v] at main
    rw [H.r804, H.k804, H.n804, tb.2.2.2.1]
    exact ⟨.refl _, u.1, by omega, fun _ => main⟩
  · have e := (b2i_eq _).mp w
    rw [u.2.2.1, u.2.2.2.1] at v
    rw [e, (b2i_ne _).mp v] at main
    rw [H.r804, H.k804, H.n804, tb.2.2.2.1]
    exact ⟨.refl _, u.1, by omega, fun _ => main⟩
end MVl
