/-! THE MODEL: reading values -/
def mTx (h : jH) (m : Nat) (t : List Int) (br : Bool) : Prop := hI h 821 m = t.length ∧ t.length ≤ 600 ∧ (∀ i : Nat, i < t.length → hA h (m + 17) (i : Int) = sb (t.getD i 0)) ∧ hI h 826 m = b2i br
theorem mFr.tx {m : Nat} {fs as : List Nat} {h h1 : jH} {t : List Int} {br : Bool} (p : mFr m fs as h h1) (X : mTx h m t br) (n : 821 ∉ fs ∧ 826 ∉ fs ∧ 17 ∉ as) : mTx h1 m t br :=
  ⟨(p.i n.1).trans X.1, X.2.1, fun i hi => (p.a n.2.2 _).trans (X.2.2.1 i hi), (p.i n.2.1).trans X.2.2.2⟩
def okT (t : List Int) : Prop := ∀ x ∈ t, 0 ≤ x ∧ x < 256
theorem okT.get {t : List Int} (ok : okT t) {i : Nat} (h : i < t.length) : 0 ≤ t.getD i 0 ∧ t.getD i 0 < 256 := by
  refine ok _ ?_
  rw [List.getD_eq_getElem?_getD, List.getElem?_eq_getElem h]
  exact List.getElem_mem _
theorem lAt_in {t : List Int} {p : Int} (h0 : 0 ≤ p) (h1 : p < t.length) : lAt t p = t.getD p.toNat 0 := if_pos ⟨h0, h1⟩
theorem lAt_out {t : List Int} {p : Int} (h1 : ¬ (0 ≤ p ∧ p < t.length)) : lAt t p = -1 := if_neg h1
theorem okT.at {t : List Int} (ok : okT t) (p : Int) : (p < t.length → 0 ≤ p → 0 ≤ lAt t p) ∧ (t.length ≤ p → lAt t p = -1) ∧ -1 ≤ lAt t p ∧ lAt t p < 256 := by
  by_cases z : 0 ≤ p ∧ p < t.length
  · rw [lAt_in z.1 z.2]
    have := ok.get (i := p.toNat) (by omega)
    exact ⟨fun _ _ => this.1, fun _ => by omega, by omega, this.2⟩
  · rw [lAt_out z]
    exact ⟨fun _ _ => by omega, fun _ => rfl, by decide, by decide⟩
def nxV (t : List Int) (br : Bool) (p : Int) : Int := if br = true ∧ lAt t p = 92 then (if lAt t (p + 1) = 40 then 40 else -1) else lAt t p
def psP (t : List Int) (br : Bool) (p : Int) : Int := if br = true ∧ lAt t p = 92 then 2 else 1
/-- the byte that the class takes -/
def cbV (t : List Int) (br : Bool) (p : Int) : Int := if esB t br p = true then 40 else lAt t p
theorem mkB_is (b : Int) : mkB b = decide (b = 33 ∨ b = 34 ∨ (37 ≤ b ∧ b ≤ 47) ∨ (58 ≤ b ∧ b ≤ 63) ∨ b = 95) := by
  rw [Bool.eq_iff_iff, decide_eq_true_iff]
  unfold mkB
  rw [List.any_eq_true]
  constructor
  · rintro ⟨x, hx, e⟩
    have e := of_decide_eq_true e
    subst e
    have : ∀ b ∈ jMKI, b = 33 ∨ b = 34 ∨ (37 ≤ b ∧ b ≤ 47) ∨ (58 ≤ b ∧ b ≤ 63) ∨ b = 95 := by decide
    exact this x hx
  · intro z
    have g : ∀ b ∈ jMKI, ∃ x ∈ jMKI, decide (x = b) = true := fun b hb => ⟨b, hb, decide_eq_true rfl⟩
    have l : b ∈ jMKI := by
      have : b = 33 ∨ b = 34 ∨ b = 37 ∨ b = 38 ∨ b = 39 ∨ b = 40 ∨ b = 41 ∨ b = 42 ∨ b = 43 ∨ b = 44 ∨ b = 45 ∨ b = 46 ∨ b = 47 ∨ b = 58 ∨ b = 59 ∨ b = 60 ∨ b = 61 ∨ b = 62 ∨ b = 63 ∨ b = 95 := by omega
      rcases this with e | e | e | e | e | e | e | e | e | e | e | e | e | e | e | e | e | e | e | e <;> subst e <;> decide
    exact g b l
theorem fit2_is (b : Int) : fitB b 2 = decide (b = 33 ∨ b = 34 ∨ (37 ≤ b ∧ b ≤ 63) ∨ b = 95 ∨ (65 ≤ b ∧ b ≤ 90) ∨ (97 ≤ b ∧ b ≤ 122)) := by
  unfold fitB isD letB
  rw [mkB_is]
  rw [Bool.eq_iff_iff]
  simp only [Bool.or_eq_true, Bool.and_eq_true, decide_eq_true_eq, true_and]
  omega
theorem fitN_is (b : Int) {s : Int} (h : s ≠ 2) : fitB b s = isD b := by
  unfold fitB
  rw [decide_eq_false h, Bool.false_and, Bool.or_false]
/-- what is taken, and where it goes on -/
theorem nx_fit {t : List Int} {br : Bool} {p : Int} (ok : okT t) (h0 : 0 ≤ p) (ov : ovB t br p = false) (s : Int) : p < t.length ∧ (esB t br p = true → p + 1 < t.length) ∧ (fitB (cbV t br p) s = true → nxV t br p = cbV t br p ∧ psP t br p = (if esB t br p = true then 2 else 1)) ∧ (fitB (cbV t br p) s = false → nxV t br p < 0 ∨ nxV t br p = cbV t br p) := by
  have o1 := ok.at p
  have o2 := ok.at (p + 1)
  unfold ovB at ov
  have ov := of_decide_eq_false ov
  have hp : p < t.length := by omega
  refine ⟨hp, fun z => ?_, fun z => ?_, fun z => ?_⟩
  · unfold esB at z
    rw [Bool.and_eq_true] at z
    have := of_decide_eq_true z.2
    by_cases c : p + 1 < t.length
    · exact c
    · have := o2.2.1 (by omega); omega
  · unfold nxV psP cbV
    cases e : esB t br p with
    | true =>
      unfold esB at e
      rw [Bool.and_eq_true] at e
      have e2 := of_decide_eq_true e.2
      rw [if_pos ⟨e.1, e2.1⟩, if_pos e2.2, if_pos rfl, if_pos ⟨e.1, e2.1⟩, if_pos rfl]
      exact ⟨rfl, rfl⟩
    | false =>
      have n92 : ¬ (br = true ∧ lAt t p = 92) := fun q => by
        unfold cbV at z
        rw [e, if_neg (by decide), q.2] at z
        have : fitB 92 s = false := by
          by_cases w : s = 2
          · subst w; rw [fit2_is]; decide
          · rw [fitN_is _ w]; decide
        rw [this] at z
        exact absurd z (by decide)
      rw [if_neg n92, if_neg (by decide), if_neg n92, if_neg (by decide)]
      exact ⟨rfl, rfl⟩
  · unfold nxV cbV
    cases e : esB t br p with
    | true =>
      unfold esB at e
      rw [Bool.and_eq_true] at e
      have e2 := of_decide_eq_true e.2
      rw [if_pos ⟨e.1, e2.1⟩, if_pos e2.2, if_pos rfl]
      exact Or.inr rfl
    | false =>
      by_cases n92 : br = true ∧ lAt t p = 92
      · rw [if_pos n92]
        unfold esB at e
        rw [n92.1, Bool.true_and] at e
        have e2 := of_decide_eq_false e
        rw [if_neg (fun q => e2 ⟨n92.2, q⟩)]
        exact Or.inl (by decide)
      · rw [if_neg n92, if_neg (by decide)]
        exact Or.inr rfl
section MR
variable {d m : Nat} {h : jH} {Q : jO → jH → Prop} {t : List Int} {br : Bool} {p : Int}
theorem n_here {i : Int} (h0 : 0 ≤ i) (ok : okT t) (H : mSh h m) (X : mTx h m t br) (k : Q (.inl (some (jI (lAt t i)))) h) : jCall d mX11_here [jR m, jI i] h Q := by
  have l6 := X.2.1
  refine bX11_here (fun _ _ => ⟨H.k, ?_⟩)
  rw [X.1, H.r820, H.k820, H.n820]
  refine fun _ => ⟨fun z => ?_, fun z => ⟨.refl _, h0, by omega, ?_⟩⟩
  · rw [lAt_out (by omega)] at k; exact k
  · have v := X.2.2.1 i.toNat (by omega)
    rw [show ((i.toNat : Nat) : Int) = i by omega] at v
    have b := ok.get (i := i.toNat) (by omega)
    rw [lAt_in h0 (by omega)] at k
    rw [v]
    have e : sb (t.getD i.toNat 0) % 256 = t.getD i.toNat 0 := by unfold sb; split <;> omega
    rw [e]
    exact fun _ => k
theorem n_ended (h0 : 0 ≤ p) (ok : okT t) (H : mSh h m) (X : mTx h m t br) (hp : hI h 825 m = p) (k : Q (.inl (some (jI (b2i (ovB t br p))))) h) : jCall (d + 1) mX11_ended [jR m] h Q := by
  have o := ok.at p
  have no : ¬ (t.length ≤ p ∨ lAt t p = (if br = true then 40 else 29)) → Q (.inl (some (jI 0))) h := fun z => by unfold ovB at k; rw [decide_eq_false z] at k; exact k
  have yes : (t.length ≤ p ∨ lAt t p = (if br = true then 40 else 29)) → Q (.inl (some (jI 1))) h := fun z => by unfold ovB at k; rw [decide_eq_true z] at k; exact k
  refine bX11_ended (fun _ => ⟨H.k, ?_⟩)
  rw [hp]
  refine fun _ => n_here h0 ok H X ⟨_, rfl, fun z => yes (by omega), fun z => ⟨H.k, ?_⟩⟩
  rw [X.2.2.2]
  have hl : ¬ t.length ≤ p := by omega
  refine fun _ => ⟨fun w => ?_, fun w => ?_⟩
  · have e := (b2i_eq _).mp w
    subst e
    exact ⟨fun y => no (fun q => by rcases q with q | q; exact hl q; exact y q), fun y => yes (Or.inr y)⟩
  · have e := (b2i_ne _).mp w
    subst e
    exact ⟨fun y => no (fun q => by rcases q with q | q; exact hl q; exact y q), fun y => yes (Or.inr y)⟩
theorem n_next (h0 : 0 ≤ p ∧ p < 1000) (ok : okT t) (H : mSh h m) (X : mTx h m t br) (hp : hI h 825 m = p) (k : Q (.inl (some (jI (nxV t br p)))) h) : jCall (d + 1) mX11_next [jR m] h Q := by
  unfold nxV at k
  refine bX11_next (fun _ => ⟨H.k, ?_⟩)
  rw [hp]
  refine fun _ => n_here h0.1 ok H X ⟨_, rfl, H.k, ?_⟩
  rw [X.2.2.2, hp]
  refine fun _ => ⟨fun w => ?_, fun w => ⟨fun y _ => ⟨⟨by omega, by omega⟩, n_here (by omega) ok H X ⟨_, rfl, fun y2 => ?_, fun y2 => ?_⟩⟩, fun y => ?_⟩⟩
  · have e := (b2i_eq _).mp w
    rw [if_neg (fun q => by rw [e] at q; exact absurd q.1 (by decide))] at k; exact k
  · rw [if_pos ⟨(b2i_ne _).mp w, y⟩, if_neg y2] at k; exact k
  · rw [if_pos ⟨(b2i_ne _).mp w, y⟩, if_pos y2] at k; exact k
  · rw [if_neg (fun q => y q.2)] at k; exact k
theorem n_pass (h0 : 0 ≤ p ∧ p < 1000) (ok : okT t) (H : mSh h m) (X : mTx h m t br) (hp : hI h 825 m = p) (k : Q (.inl none) (sI h 825 m (p + psP t br p))) : jCall (d + 1) mX11_pass [jR m] h Q := by
  unfold psP at k
  refine bX11_pass (fun _ => ⟨H.k, ?_⟩)
  rw [hp, X.2.2.2]
  refine fun _ _ => ⟨fun w => ⟨⟨by omega, by omega⟩, ?_⟩, fun w => n_here h0.1 ok H X ⟨_, rfl, fun y => ⟨⟨by omega, by omega⟩, H.k, ?_⟩, fun y => ⟨⟨by omega, by omega⟩, H.k, ?_⟩⟩⟩
  · have e := (b2i_eq _).mp w
    rw [if_neg (fun q => by rw [e] at q; exact absurd q.1 (by decide))] at k; exact k
  · rw [if_neg (fun q => y q.2)] at k; exact k
  · rw [if_pos ⟨(b2i_ne _).mp w, y⟩] at k; exact k
theorem n_isSign {c : Int} (k : Q (.inl (some (jI (b2i (fitB c 2))))) h) : jCall d mX11_isSign [jI c] h Q := by
  rw [fit2_is] at k
  have no : ¬ (c = 33 ∨ c = 34 ∨ (37 ≤ c ∧ c ≤ 63) ∨ c = 95 ∨ (65 ≤ c ∧ c ≤ 90) ∨ (97 ≤ c ∧ c ≤ 122)) → jWp d mX11_isSign 59 [] [jI 0] h Q := fun z => by rw [decide_eq_false z] at k; exact bX11_isSign_59 (fun _ => ⟨by decide, k⟩)
  have yes : (c = 33 ∨ c = 34 ∨ (37 ≤ c ∧ c ≤ 63) ∨ c = 95 ∨ (65 ≤ c ∧ c ≤ 90) ∨ (97 ≤ c ∧ c ≤ 122)) → jWp d mX11_isSign 59 [] [jI 1] h Q := fun z => by rw [decide_eq_true z] at k; exact bX11_isSign_59 (fun _ => ⟨by decide, k⟩)
  exact bX11_isSign (fun _ _ => ⟨fun _ => yes (by omega), fun _ => ⟨fun _ => yes (by omega), fun _ => ⟨fun _ => ⟨fun _ => yes (by omega), fun _ => ⟨fun _ => ⟨fun _ => no (by omega), fun _ => ⟨fun _ => no (by omega), fun _ => yes (by omega)⟩⟩, fun _ => ⟨fun _ => yes (by omega), fun _ => ⟨fun _ => no (by omega), fun _ => ⟨fun _ => no (by omega), fun _ => yes (by omega)⟩⟩⟩⟩⟩, fun _ => ⟨fun _ => yes (by omega), fun _ => ⟨fun _ => yes (by omega), fun _ => ⟨fun _ => ⟨fun _ => no (by omega), fun _ => ⟨fun _ => no (by omega), fun _ => yes (by omega)⟩⟩, fun _ => ⟨fun _ => yes (by omega), fun _ => ⟨fun _ => no (by omega), fun _ => ⟨fun _ => no (by omega), fun _ => yes (by omega)⟩⟩⟩⟩⟩⟩⟩⟩⟩)
theorem n_fault {a b : Int} (H : mSh h m) (k : Q (.inl (some (jI 0))) (sI (sI h 823 m a) 824 m b)) : jCall d mX11_fault [jR m, jI a, jI b] h Q := bX11_fault (fun _ _ _ => ⟨H.k, k⟩)
/-! a part -/
def vFr (m : Nat) (e : Int) (h h' : jH) : Prop := mFr m [823, 824, 825] [12, 13, 14, 15, 18] h h' ∧ ∀ e' : Int, e' ≠ e → mSame h h' m e' e'
theorem vFr.rfl {e : Int} : vFr m e h h := ⟨.rfl, fun _ _ => .rfl⟩
theorem vFr.trans {e : Int} {h1 h2 : jH} (p : vFr m e h h1) (q : vFr m e h1 h2) : vFr m e h h2 := ⟨p.1.trans q.1, fun e' he => (p.2 e' he).trans (q.2 e' he)⟩
theorem vFr.i {e : Int} {h1 : jH} {f : Nat} {v : Int} (p : vFr m e h h1) (hf : f ∈ [823, 824, 825]) : vFr m e h (sI h1 f m v) :=
  ⟨p.1.sI hf, fun e' he => (p.2 e' he).trans ((mFr.rfl.sI (fs := [823, 824, 825]) (as := []) hf).same (by decide) e')⟩
def mVS (h : jH) (m : Nat) (e : Int) (t : List Int) (br : Bool) (clk : Int) (v : List Int) (p : Int) : Prop := mSh h m ∧ mTb h m ∧ mTx h m t br ∧ hI h 825 m = p ∧ hI h 822 m = clk ∧ ∀ i : Nat, i < v.length → hA h (m + 15) (90 * e + i) = v.getD i 0
/-- the places of a part's bytes -/
def mPl (h : jH) (m : Nat) (s : Int) (fr : Nat) (b0 : Int) (v : List Int) (p : Int) : Prop := fr ≤ v.length ∧ (v.length = fr → p = b0) ∧ (fr < v.length → hA h (m + 18) (fr : Int) = b0) ∧ (fr < v.length → s ≠ 2 → hA h (m + 18) ((v.length : Int) - 1) = p - 1) ∧ (s ≠ 2 → ∀ i : Nat, fr ≤ i → i < v.length → isD (v.getD i 0) = true)
theorem mVS.f0 {e clk : Int} {v : List Int} {a b : Int} (S : mVS h m e t br clk v p) : vFr m e h (sI (sI h 823 m a) 824 m b) ∧ hI (sI (sI h 823 m a) 824 m b) 823 m = a ∧ hI (sI (sI h 823 m a) 824 m b) 824 m = b := by
  refine ⟨(vFr.rfl.i (by decide)).i (by decide), ?_, ?_⟩
  · rw [hI_sI, if_neg (by omega), hI_sI, if_pos ⟨.refl _, .refl _⟩]
  · rw [hI_sI, if_pos ⟨.refl _, .refl _⟩]
/-- after a byte -/
theorem mVS.byte {e clk s c : Int} {fr : Nat} {b0 : Int} {v : List Int} (he : 0 ≤ e ∧ e < 200) (S : mVS h m e t br clk v p) (P : mPl h m s fr b0 v p) (hv : v.length < 90) (hd : s ≠ 2 → isD c = true) (w : Int) (hw : s ≠ 2 → w = 1) : vFr m e h (sI (sA (sA h (m + 18) v.length p) (m + 15) (90 * e + v.length) c) 825 m (p + w)) ∧ mVS (sI (sA (sA h (m + 18) v.length p) (m + 15) (90 * e + v.length) c) 825 m (p + w)) m e t br clk (v ++ [c]) (p + w) ∧ mPl (sI (sA (sA h (m + 18) v.length p) (m + 15) (90 * e + v.length) c) 825 m (p + w)) m s fr b0 (v ++ [c]) (p + w) := by
  obtain ⟨q1, q2, q3, q4, q5, q6⟩ := S
  obtain ⟨r1, r2, r3, r4, r5⟩ := P
  have f : mFr m [823, 824, 825] [12, 13, 14, 15, 18] h (sI (sA (sA h (m + 18) v.length p) (m + 15) (90 * e + v.length) c) 825 m (p + w)) := ((mFr.rfl.sA (by decide)).sA (by decide)).sI (by decide)
  have al : (v ++ [c]).length = v.length + 1 := by simp
  refine ⟨⟨f, fun e' he' => ⟨?_, ?_, ?_, ?_, fun i hi => ?_⟩⟩, ⟨f.sh q1, f.tb q2 (by decide), f.tx q3 (by decide), ?_, (f.i (by decide)).trans q5, fun i hi => ?_⟩, ⟨by omega, fun z => by omega, fun _ => ?_, fun _ hs => ?_, fun hs i h0 hi => ?_⟩⟩
  · rw [hA_sI, hA_sA, if_neg (by omega), hA_sA, if_neg (by omega)]
  · rw [hA_sI, hA_sA, if_neg (by omega), hA_sA, if_neg (by omega)]
  · rw [hA_sI, hA_sA, if_neg (by omega), hA_sA, if_neg (by omega)]
  · rw [hA_sI, hA_sA, if_neg (by omega), hA_sA, if_neg (by omega)]
  · rw [hA_sI, hA_sA, if_neg (by omega), hA_sA, if_neg (by omega)]
  · rw [hI_sI, if_pos ⟨.refl _, .refl _⟩]
  · rw [hA_sI, hA_sA]
    by_cases ei : i = v.length
    · subst ei
      rw [if_pos ⟨.refl _, .refl _⟩]
      simp
    · rw [if_neg (by omega), hA_sA, if_neg (by omega), q6 i (by omega), app_getL _ _ _ (by omega)]
  · rw [hA_sI, hA_sA, if_neg (by omega), hA_sA]
    by_cases ef : v.length = fr
    · rw [if_pos ⟨.refl _, by omega⟩]
      exact r2 ef
    · rw [if_neg (by omega)]
      exact r3 (by omega)
  · rw [hA_sI, hA_sA, if_neg (by omega), hA_sA, if_pos ⟨.refl _, by omega⟩, hw hs]
    omega
  · by_cases ei : i = v.length
    · subst ei
      simpa using hd hs
    · rw [app_getL _ _ _ (by omega)]
      exact r5 hs i h0 (by omega)
theorem n_value_111 {e ix bd fr q clk s : Int} {v : List Int} (ok : okT t) (h0 : 0 ≤ p) (hp : p ≤ t.length) (S : mVS h m e t br clk v p) (hq : 0 ≤ q ∧ q < 61) (hs : pS q = s) (ov : ovB t br p = false) (k1 : fitB (cbV t br p) s = true → jWp (d + 2) mX11_value 184 [(0, jR m), (1, jI e), (2, jI ix), (3, jI bd), (4, jI v.length), (5, jI q), (6, jI fr), (7, jI (cbV t br p))] [jI 1] h Q) (k0 : fitB (cbV t br p) s = false → ∀ c : Int, jWp (d + 2) mX11_value 184 [(0, jR m), (1, jI e), (2, jI ix), (3, jI bd), (4, jI v.length), (5, jI q), (6, jI fr), (7, jI c)] [jI 0] h Q) : jWp (d + 2) mX11_value 111 [(0, jR m), (1, jI e), (2, jI ix), (3, jI bd), (4, jI v.length), (5, jI q), (6, jI fr)] [] h Q := by
  obtain ⟨H, T, X, q4, q5, q6⟩ := S
  have nf := nx_fit ok h0 ov s
  have l6 := X.2.1
  have tp := T.2.2.2.1 q hq.1 hq.2
  refine bX11_value_111 (fun _ _ _ _ _ _ _ => ⟨H.k, n_ended h0 ok H X q4 ⟨_, rfl, fun _ => ⟨H.k, n_next ⟨h0, by omega⟩ ok H X q4 ⟨_, rfl, H.k, ?_⟩⟩, fun w => by rw [ov] at w; exact absurd rfl w⟩⟩)
  rw [H.r807, H.k807, H.n807, tp.1, hs]
  refine ⟨.refl _, hq.1, by omega, fun _ => ⟨fun s2 => ⟨fun z => ?_, fun z => n_isDigit ⟨_, rfl, fun w => ?_, fun w => ?_⟩⟩, fun s2 => ⟨fun z => ?_, fun z => n_isSign ⟨_, rfl, fun w => ?_, fun w => ?_⟩⟩⟩⟩
  all_goals cases g : fitB (cbV t br p) s
  · exact bX11_value_183 (fun _ _ _ _ _ _ _ _ => k0 g _)
  · have := (nf.2.2.1 g).1
    rw [fitN_is _ s2] at g
    have := isD_rg g
    omega
  · exact bX11_value_183 (fun _ _ _ _ _ _ _ _ => k0 g _)
  · have e1 := (nf.2.2.1 g).1
    have w' := (b2i_eq _).mp w
    rw [e1, ← fitN_is _ s2, g] at w'
    exact absurd w' (by decide)
  · have w' := (b2i_ne _).mp w
    rcases nf.2.2.2 g with e1 | e1
    · exact absurd e1 z
    · rw [e1, ← fitN_is _ s2, g] at w'
      exact absurd w' (by decide)
  · have e1 := (nf.2.2.1 g).1
    rw [e1]
    exact k1 g
  · exact bX11_value_162 (fun _ _ _ _ _ _ _ _ => k0 g _)
  · have := (nf.2.2.1 g).1
    have := fitB_rg g
    omega
  · exact bX11_value_162 (fun _ _ _ _ _ _ _ _ => k0 g _)
  · have e1 := (nf.2.2.1 g).1
    have w' := (b2i_eq _).mp w
    rw [s2] at g
    rw [e1, g] at w'
    exact absurd w' (by decide)
  · have w' := (b2i_ne _).mp w
    rw [s2] at g
    rcases nf.2.2.2 (by rw [s2]; exact g) with e1 | e1
    · exact absurd e1 z
    · rw [e1, g] at w'
      exact absurd w' (by decide)
  · have e1 := (nf.2.2.1 g).1
    rw [e1]
    exact k1 g
/-- the bytes of a part -/
theorem n_part_loop {e ix bd q clk part : Int} {fr : Nat} {b0 : Int} (ok : okT t) (he : 0 ≤ e ∧ e < 200) (hq : 0 ≤ q ∧ q < 61) (hs : pS q = part / 1000) (hm : pM q = mostV part) (hL : pL q = if part % 2 ≠ 0 then 1 else mostV part) (f : Nat) : ∀ (v : List Int) (p : Int) (h : jH), (v.length : Int) - fr + f = mostV part → v.length + f ≤ 90 → 0 ≤ p → p ≤ t.length → mVS h m e t br clk v p → mPl h m (part / 1000) fr b0 v p → (∀ h' a b, (rpF t br part f (v.length - fr) v p).2.2 = some (a, b) → vFr m e h h' → hI h' 823 m = a → hI h' 824 m = b → Q (.inl (some (jI 0))) h') → (∀ h', (rpF t br part f (v.length - fr) v p).2.2 = none → vFr m e h h' → hI h' 823 m = hI h 823 m → hI h' 824 m = hI h 824 m → (∀ i, hA h' (m + 14) i = hA h (m + 14) i) → mVS h' m e t br clk (rpF t br part f (v.length - fr) v p).1 (rpF t br part f (v.length - fr) v p).2.1 → (rpF t br part f (v.length - fr) v p).2.1 ≤ t.length → mPl h' m (part / 1000) fr b0 (rpF t br part f (v.length - fr) v p).1 (rpF t br part f (v.length - fr) v p).2.1 → jCall (d + 1) mX11_holds [jR m, jI e, jI (part / 1000), jI fr, jI ((rpF t br part f (v.length - fr) v p).1.length - fr)] h' (fun o h253 => ∃ v253, o = .inl (some (jI v253)) ∧ ((v253 ≠ 0 → j32 (q + 1) ∧ jWp (d + 2) mX11_value 32 [(0, jR m), (1, jI e), (2, jI ix), (3, jI bd), (4, jI (rpF t br part f (v.length - fr) v p).1.length), (5, jI (q + 1))] [] h253 Q) ∧ (v253 = 0 → Q (.inl (some (jI 0))) h253)))) → jWp (d + 2) mX11_value 74 [(0, jR m), (1, jI e), (2, jI ix), (3, jI bd), (4, jI v.length), (5, jI q), (6, jI fr)] [] h Q := by
  induction f with
  | zero =>
    intro v p h hv h90 h0 hp S P kf kn
    have H := S.1
    have tp := S.2.1.2.2.2.1 q hq.1 hq.2
    have mr := mostV_rg (p := part)
    refine bX11_value_74 (fun _ _ _ _ _ _ _ => ⟨⟨by omega, by omega⟩, H.k, ?_⟩)
    rw [H.r809, H.k809, H.n809, H.r807, H.k807, H.n807, tp.2.2.1, tp.1, hm, hs]
    exact ⟨.refl _, hq.1, by omega, fun _ => ⟨fun _ => ⟨.refl _, by omega, fun _ => kn h rfl .rfl rfl rfl (fun _ => rfl) S hp P⟩, fun z => by omega⟩⟩
  | succ f ih =>
    intro v p h hv h90 h0 hp S P kf kn
    have H := S.1
    have X := S.2.2.1
    have q4 := S.2.2.2.1
    have l6 := X.2.1
    have tp := S.2.1.2.2.2.1 q hq.1 hq.2
    have mr := mostV_rg (p := part)
    have pf := P.1
    unfold rpF at kf kn
    have go111 : jWp (d + 2) mX11_value 111 [(0, jR m), (1, jI e), (2, jI ix), (3, jI bd), (4, jI v.length), (5, jI q), (6, jI fr)] [] h Q ∨ ovB t br p = true := by
      cases ov : ovB t br p with
      | true => exact Or.inr rfl
      | false =>
        left
        rw [if_neg (by rw [ov]; decide)] at kf kn
        have nf := nx_fit ok h0 ov (part / 1000)
        refine n_value_111 ok h0 hp S hq hs ov (fun g => ?_) (fun g c => ?_)
        · have g' : fitB (if esB t br p = true then 40 else lAt t p) (part / 1000) = true := g
          rw [if_pos g'] at kf kn
          have c1 := fitB_rg g
          have ps1 := (nf.2.2.1 g).2
          have cb : cbV t br p = if esB t br p = true then 40 else lAt t p := rfl
          have w1 : part / 1000 ≠ 2 → psP t br p = 1 := fun hs2 => by
            rw [ps1]
            cases es : esB t br p with
            | false => rfl
            | true =>
              rw [cb, es, if_pos rfl, fitN_is _ hs2] at g
              exact absurd g (by decide)
          have st := mVS.byte (c := cbV t br p) he S P (by omega) c1.2.2 (psP t br p) w1
          have pr : 1 ≤ psP t br p ∧ psP t br p ≤ 2 := by unfold psP; split <;> decide
          have pl : p + psP t br p ≤ t.length := by
            rw [ps1]
            cases es : esB t br p with
            | false => have := nf.1; simp; omega
            | true => have := nf.2.1 es; simp; omega
          refine bX11_value_184 (fun _ _ _ _ _ _ _ _ => ⟨fun _ => ⟨H.k, ?_⟩, fun z => absurd z (by decide)⟩)
          rw [q4, H.r827, H.k827, H.n827, H.r817, H.k817, H.n817, show (cbV t br p + 128) % 256 - 128 = cbV t br p by omega]
          refine fun _ => ⟨.refl _, by omega, by omega, ⟨by omega, by omega⟩, ⟨by omega, by omega⟩, .refl _, by omega, by omega, ⟨by omega, by omega⟩, ?_⟩
          have f2 : mFr m [] [15, 18] h (sA (sA h (m + 18) v.length p) (m + 15) (90 * e + v.length) (cbV t br p)) := (mFr.rfl.sA (by decide)).sA (by decide)
          refine n_pass ⟨h0, by omega⟩ ok (f2.sh H) (f2.tx X (by decide)) ((f2.i (by decide)).trans q4) ⟨rfl, ?_⟩
          have al : (v ++ [cbV t br p]).length = v.length + 1 := by simp
          have ih2 := ih (v ++ [cbV t br p]) (p + psP t br p) _ (by omega) (by omega) (by omega) pl st.2.1 st.2.2
          have n1 : (v ++ [cbV t br p]).length - fr = v.length - fr + 1 := by omega
          have n2 : ((v ++ [cbV t br p]).length : Int) = v.length + 1 := by omega
          rw [n1, n2] at ih2
          have pe : (p + if esB t br p = true then (2 : Int) else 1) = p + psP t br p := by rw [ps1]
          rw [pe, ← cb] at kf kn
          refine ih2 (fun h' a b r fr' => kf h' a b r (st.1.trans fr')) (fun h' r fr' g1 g2 y => kn h' r (st.1.trans fr') (g1.trans ?_) (g2.trans ?_) (fun i => (y i).trans ?_))
          · rw [hI_sI, if_neg (by omega), hI_sA, hI_sA]
          · rw [hI_sI, if_neg (by omega), hI_sA, hI_sA]
          · rw [hA_sI, hA_sA, if_neg (by omega), hA_sA, if_neg (by omega)]
        · have g' : ¬ fitB (if esB t br p = true then 40 else lAt t p) (part / 1000) = true := by
            have : fitB (cbV t br p) (part / 1000) = false := g
            unfold cbV at this
            rw [this]; decide
          rw [if_neg g'] at kf
          refine bX11_value_184 (fun _ _ _ _ _ _ _ _ => ⟨fun z => absurd rfl z, fun _ => ⟨H.k, ?_⟩⟩)
          rw [q4]
          have f0 := mVS.f0 (a := 4) (b := p) S
          exact fun _ => n_fault H ⟨_, rfl, by decide, kf _ 4 p rfl f0.1 f0.2.1 f0.2.2⟩
    have over : ovB t br p = true → (0 < v.length - fr ∧ part % 2 ≠ 0 → jCall (d + 1) mX11_holds [jR m, jI e, jI (part / 1000), jI fr, jI ((v.length : Int) - fr)] h (fun o h253 => ∃ v253, o = .inl (some (jI v253)) ∧ ((v253 ≠ 0 → j32 (q + 1) ∧ jWp (d + 2) mX11_value 32 [(0, jR m), (1, jI e), (2, jI ix), (3, jI bd), (4, jI v.length), (5, jI (q + 1))] [] h253 Q) ∧ (v253 = 0 → Q (.inl (some (jI 0))) h253)))) ∧ (¬ (0 < v.length - fr ∧ part % 2 ≠ 0) → jWp (d + 2) mX11_value 111 [(0, jR m), (1, jI e), (2, jI ix), (3, jI bd), (4, jI v.length), (5, jI q), (6, jI fr)] [] h Q) := fun ov => by
      rw [if_pos ov] at kf kn
      refine ⟨fun c => ?_, fun c => ?_⟩
      · rw [if_pos c] at kn
        exact kn h rfl .rfl rfl rfl (fun _ => rfl) S hp P
      · rw [if_neg c] at kf
        refine bX11_value_111 (fun _ _ _ _ _ _ _ => ⟨H.k, n_ended h0 ok H X q4 ⟨_, rfl, fun w => by rw [ov] at w; exact absurd w (by decide), fun _ => ⟨H.k, ?_⟩⟩⟩)
        rw [q4]
        have f0 := mVS.f0 (a := 3) (b := p) S
        exact fun _ => n_fault H ⟨_, rfl, by decide, kf _ 3 p rfl f0.1 f0.2.1 f0.2.2⟩
    refine bX11_value_74 (fun _ _ _ _ _ _ _ => ⟨⟨by omega, by omega⟩, H.k, ?_⟩)
    rw [H.r809, H.k809, H.n809, H.r808, H.k808, H.n808, tp.2.2.1, tp.2.1, hm, hL]
    refine ⟨.refl _, hq.1, by omega, fun _ => ⟨fun z => by omega, fun _ => ⟨.refl _, by omega, fun _ => ⟨fun z => ?_, fun z => n_ended h0 ok H X q4 ⟨_, rfl, fun w => ⟨H.k, ?_⟩, fun w => ?_⟩⟩⟩⟩⟩
    · rcases go111 with g | ov
      · exact g
      · refine (over ov).2 (fun c => ?_)
        rw [if_pos c.2] at z
        omega
    · have ov := (b2i_ne _).mp w
      rw [H.r807, H.k807, H.n807, tp.1, hs]
      refine ⟨.refl _, hq.1, by omega, fun _ => ⟨⟨by omega, by omega⟩, (over ov).1 ?_⟩⟩
      by_cases c : part % 2 ≠ 0
      · rw [if_pos c] at z
        exact ⟨by omega, c⟩
      · rw [if_neg c] at z
        omega
    · rcases go111 with g | ov
      · exact g
      · rw [ov] at w
        exact absurd w (by decide)
end MR
