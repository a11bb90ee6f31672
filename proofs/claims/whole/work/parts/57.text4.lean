/-! THE READER OF TEXTS: identifiers -/
theorem LN_dg : ∀ n : Nat, n < 65 → (LN (8 * (n : Int) + 3) = -1 → 2 ≤ LN (8 * (n : Int) + 2) ∧ LN (8 * (n : Int) + 2) ≤ 4) ∧ (LN (8 * (n : Int) + 3) ≠ -1 → LN (8 * (n : Int) + 2) = 3) := by decide +kernel
theorem lineF_ok (a dg : Int) : ∀ n i : Nat, i + n ≤ 65 → lineF a dg n i ≠ -1 → ∃ k : Nat, k < 65 ∧ lnOk (8 * k) a dg = true
  | 0, i, _, h => absurd rfl h
  | n + 1, i, hi, h => by
    unfold lineF at h
    by_cases z : lnOk (8 * i) a dg = true
    · exact ⟨i, by omega, z⟩
    · rw [if_neg z] at h
      exact lineF_ok a dg n (i + 1) (by omega) h
theorem lineV_dg {a dg : Int} (h : lineV a dg ≠ -1) : 2 ≤ dg ∧ dg ≤ 4 := by
  obtain ⟨k, hk, z⟩ := lineF_ok a dg 65 0 (by omega) h
  have t := LN_dg k hk
  unfold lnOk at z
  rw [Bool.and_eq_true, Bool.and_eq_true, Bool.and_eq_true] at z
  have y := of_decide_eq_true z.2.2.1
  by_cases w : LN (8 * (k : Int) + 3) = -1
  · rw [if_pos w] at y
    have := t.1 w
    omega
  · rw [if_neg w] at y
    have := t.2 w
    omega
/-- the reader with its label and its places -/
def trOK (h : jH) (T : Nat) (es : List jE) (ps : List Int) : Prop := isLab h (T + 1) es ∧ isRow h (T + 64) 20 ps ∧ ps.length = es.length
def trSh (h : jH) (T : Nat) : Prop := labSh h (T + 1) ∧ ∃ ps, isRow h (T + 64) 20 ps
theorem trOK.sh {h : jH} {T : Nat} {es : List jE} {ps : List Int} (H : trOK h T es ps) : trSh h T := ⟨H.1.1, _, H.2.1⟩
theorem jFI_nt (h : jH) (T : Nat) (a b : Int) : jFI T (T + 1) h (sI (sI h 606 T a) 607 T b) := (jFI_I h 606 T a).trans (jFI_I _ 607 T b)
theorem fl9_nt (h : jH) (T : Nat) (a b : Int) : fl9 h (sI (sI h 606 T a) 607 T b) T (some (a, b)) := by
  refine ⟨?_, ?_⟩
  · rw [hI_sI, if_neg (by omega), hI_sI, if_pos ⟨.refl _, .refl _⟩]
  · rw [hI_sI, if_pos ⟨.refl _, .refl _⟩]
theorem jFI.trOK {a b : Nat} {h h1 : jH} {T : Nat} {es : List jE} {ps : List Int} (p : jFI a b h h1) (H : trOK h T es ps) (hd : b ≤ T + 1 ∨ T + 66 ≤ a) : trOK h1 T es ps := ⟨p.lab H.1 (by omega), p.row H.2.1 (by omega), H.2.2⟩
section X12
variable {d : Nat} {h : jH} {Q : jO → jH → Prop} {T q cap : Nat} {br : Bool} {clk p : Int} {t : List Int} {es : List jE} {ps : List Int}
theorem jFI.tr {a b : Nat} {h1 : jH} (f : jFI a b h h1) (H : isTR h T q br clk p) (hd : b ≤ T ∨ T + 1 ≤ a) : isTR h1 T q br clk p := (f.fp (S := fun o => a ≤ o ∧ o < b) (fun o x y => ⟨x, y⟩)).tr H (by omega)
theorem s9_newElement {dg : Int} (h0 : 0 ≤ dg) (hp : 0 ≤ p ∧ p ≤ 100000) (hqT : q + 2 ≤ T ∨ T + 66 ≤ q) (H : isTR h T q br clk p) (R : isRow h q cap t) (O : trOK h T es ps)
    (k0 : ∀ a b : Int, (lnA t p dg = -1 ∧ a = 2 ∨ lnA t p dg ≠ -1 ∧ es.length = 20 ∧ a = 9) → b = p → ∀ h', jFr T (T + 66) h h' → isTR h' T q br clk p → trSh h' T → fl9 h h' T (some (a, b)) → Q (.inl (some (jR 0))) h')
    (k1 : lnA t p dg ≠ -1 → es.length < 20 → ∀ h', jFr T (T + 66) h h' → isTR h' T q br clk p → trOK h' T (es ++ [(numOf (seg t p.toNat dg.toNat), dg, [], clk)]) (ps ++ [p]) → fl9 h h' T none → Q (.inl (some (jR (elV h' (T + 1) es.length)))) h') : jCall (d + 3) mX9_newElement [jR T, jI dg] h Q := by
  obtain ⟨q1, q2, q3, q4, q5, q6, q7⟩ := id H
  obtain ⟨OL, OR, Ol⟩ := id O
  have ref : ∀ a : Int, (lnA t p dg = -1 ∧ a = 2 ∨ lnA t p dg ≠ -1 ∧ es.length = 20 ∧ a = 9) → hK h T = 7 ∧ (j32 (hI h 605 T) → jCall (d + 2) mX9_refuse [jR T, jI a, jI (hI h 605 T)] h (fun o h42 => ∃ v42, o = .inl (some (jI v42)) ∧ Q (.inl (some (jR 0))) h42)) := fun a ha => by
    refine ⟨q1, fun _ => ?_⟩
    rw [q7]
    have f := jFI_nt h T a p
    exact s9_refuse q1 ⟨_, rfl, k0 a p ha rfl _ (f.fr.mono (by omega) (by omega)) (H.setF a p) (f.trOK O (by omega)).sh (fl9_nt h T a p)⟩
  refine bX9_newElement (fun _ _ => ⟨q1, s9_lineAt h0 H R ⟨_, rfl, fun z => ⟨q1, ?_⟩, fun z => ref 2 (Or.inl ⟨z, rfl⟩)⟩⟩)
  rw [q2]
  have hd : ¬ 4 < dg ∧ digB t p dg = true ∧ lnA t p dg = lineV (numOf (seg t p.toNat dg.toNat)) dg := by
    unfold lnA at z ⊢
    by_cases w : 4 < dg
    · rw [if_pos w] at z; exact absurd rfl z
    · rw [if_neg w] at z ⊢
      by_cases y : digB t p dg = true
      · rw [if_pos y]; exact ⟨w, y, rfl⟩
      · rw [if_neg y] at z; exact absurd rfl z
  have nr := numOf4 hd.2.1 (by omega)
  have dr := lineV_dg (by rw [← hd.2.2]; exact z)
  refine ⟨OL.1.1, s6_grow OL (fun y => ⟨_, rfl, fun w => absurd rfl w, fun _ => ref 9 (Or.inr ⟨z, y, rfl⟩)⟩) (fun y => ⟨_, rfl, fun _ => ⟨q1, fun _ => ?_⟩, fun w => ?_⟩)⟩
  · have f1 := jFI_I h 402 (T + 1) (es.length + 1)
    have rg := OL.1.rg (k := es.length) (by omega)
    have H1 := f1.tr H (by omega)
    have R1 := f1.row R (by omega)
    have S1 := f1.labSh OL.1 (by omega)
    have e1 := jFI_elV f1 (T + 1) es.length
    rw [H1.2.2.2.1, H1.2.2.2.2.2.2]
    refine ⟨R1.1, s7_digitsAt (by omega) R1 ⟨_, rfl, ?_⟩⟩
    rw [if_pos hd.2.1]
    refine ⟨⟨by omega, by omega⟩, q1, fun _ => ?_⟩
    rw [H1.2.2.2.2.2.1]
    have se := S1.el (k := es.length) (by omega)
    rw [e1] at se
    refine ⟨se.1, s4_begin se hd.2.2 nr (by omega) (fun h2 f2 E2 => ⟨rfl, ?_⟩)⟩
    have H2 := f2.tr H1 (by omega)
    have P2 := f2.row (f1.row OR (by omega)) (by omega)
    refine ⟨H2.1, fun _ => ?_⟩
    rw [H2.2.2.1, H2.2.2.2.2.2.2]
    refine ⟨P2.1, s7_put P2 (fun h3 f3 P3 => ⟨rfl, ?_⟩)⟩
    rw [lput_app (by omega)] at P3
    have f13 : jFr T (T + 66) h h3 := (f1.fr.mono (by omega) (by omega)).trans ((f2.fr.mono (by omega) (by omega)).trans (f3.fr.mono (by omega) (by omega)))
    have e3 : elV h3 (T + 1) es.length = elV h (T + 1) es.length := by rw [jFI_elV f3, jFI_elV f2, e1]
    have S2 := S1.at1 (k := es.length) (by omega) (by rw [e1]; exact f2) (by rw [e1]; exact E2.sh)
    have S3 := f3.labSh S2 (by omega)
    have w6 : fl9 h h3 T none := ⟨by rw [(f3.2.2.2.2.2.2 T (by omega)).1, (f2.2.2.2.2.2.2 T (by omega)).1, (f1.2.2.2.2.2.2 T (by omega)).1], by rw [(f3.2.2.2.2.2.2 T (by omega)).1, (f2.2.2.2.2.2.2 T (by omega)).1, (f1.2.2.2.2.2.2 T (by omega)).1]⟩
    have := k1 z y h3 f13 (f3.tr H2 (by omega)) ⟨⟨S3, ?_, by simp; omega, fun i hi => ?_⟩, P3, by simp [Ol]⟩ w6
    · rw [e3] at this
      exact this
    · rw [(f3.2.2.2.2.2.2 (T + 1) (by omega)).1, (f2.2.2.2.2.2.2 (T + 1) (by omega)).1, hI_sI, if_pos ⟨.refl _, .refl _⟩]
      simp
    · simp at hi
      have ei : elV h3 (T + 1) i = elV h (T + 1) i := by rw [jFI_elV f3, jFI_elV f2, jFI_elV f1]
      rw [ei]
      have rgi := OL.1.rg (k := i) (by omega)
      by_cases w : i = es.length
      · subst w
        rw [List.getD_eq_getElem?_getD, List.getElem?_append_right (Nat.le_refl _)]
        simp only [Nat.sub_self, List.getElem?_cons_zero, Option.getD_some]
        exact f3.el E2 (by omega)
      · rw [List.getD_eq_getElem?_getD, List.getElem?_append_left (by omega), ← List.getD_eq_getElem?_getD]
        have ne := OL.1.ne (i := i) (k := es.length) (by omega) (by omega) w
        exact f3.el (f2.el (f1.el (OL.2.2.2 i (by omega)) (by omega)) (by omega)) (by omega)
  · have rg := OL.1.rg (k := es.length) (by omega)
    omega
/-- the digits of an AI that stands there plainly -/
def plD (t : List Int) (p : Int) : Int := if lnA t p 2 ≠ -1 then 2 else if lnA t p 3 ≠ -1 then 3 else 4
/-- where the bracket closes -/
def clF (t : List Int) : Nat → Int → Int
  | 0, e => e
  | n + 1, e => if t.length ≤ e then e else if lAt t e = 41 then e else clF t n (e + 1)
theorem clF_rg (t : List Int) : ∀ (n : Nat) (e : Int), e ≤ clF t n e ∧ (e ≤ t.length → clF t n e ≤ t.length)
  | 0, e => by simp [clF]
  | n + 1, e => by
    have := clF_rg t n (e + 1)
    unfold clF
    split
    · omega
    · split <;> omega
def aiN (t : List Int) (p dg np : Int) (n : Nat) : (Int × Int) ⊕ (Int × Int × Int × Int) :=
  if lnA t p dg = -1 then .inl (2, p) else if n = 20 then .inl (9, p) else .inr (numOf (seg t p.toNat dg.toNat), dg, p, np)
def aiP (t : List Int) (p : Int) (n : Nat) : (Int × Int) ⊕ (Int × Int × Int × Int) := if t.length ≤ p then .inl (1, p) else aiN t p (plD t p) (p + plD t p) n
def aiB (t : List Int) (p : Int) (n : Nat) : (Int × Int) ⊕ (Int × Int × Int × Int) :=
  if lAt t p ≠ 40 then .inl (1, p) else if t.length ≤ p + 1 then .inl (1, p + 1)
  else match aiN t (p + 1) (clF t t.length (p + 1) - (p + 1)) (clF t t.length (p + 1) + 1) n with
    | .inl x => .inl x
    | .inr x => if t.length ≤ clF t t.length (p + 1) then .inl (1, clF t t.length (p + 1)) else .inr x
theorem s9_readPlainAi (hp : 0 ≤ p ∧ p ≤ 90000) (hqT : q + 2 ≤ T ∨ T + 66 ≤ q) (H : isTR h T q br clk p) (R : isRow h q cap t) (O : trOK h T es ps)
    (k0 : ∀ x, aiP t p es.length = .inl x → ∀ h' p', jFr T (T + 66) h h' → isTR h' T q br clk p' → trSh h' T → fl9 h h' T (some x) → Q (.inl (some (jR 0))) h')
    (k1 : ∀ a dg pa p', aiP t p es.length = .inr (a, dg, pa, p') → es.length < 20 → ∀ h', jFr T (T + 66) h h' → isTR h' T q br clk p' → trOK h' T (es ++ [(a, dg, [], clk)]) (ps ++ [pa]) → fl9 h h' T none → Q (.inl (some (jR (elV h' (T + 1) es.length)))) h') : jCall (d + 4) mX9_readPlainAi [jR T] h Q := by
  obtain ⟨q1, q2, q3, q4, q5, q6, q7⟩ := id H
  unfold aiP at k0 k1
  refine bX9_readPlainAi (fun _ => ⟨q1, fun _ => ?_⟩)
  rw [q4, q7]
  have new : ∀ dg : Int, dg = plD t p → p < t.length → jCall (d + 3) mX9_newElement [jR T, jI dg] h (fun o h50 => ∃ v50, o = .inl (some (jR v50)) ∧ ((v50 = 0 → Q (.inl (some (jR v50))) h50) ∧ (¬ (v50 = 0) → hK h50 T = 7 ∧ (j32 (hI h50 605 T) → j32 ((hI h50 605 T) + dg) ∧ Q (.inl (some (jR v50))) (sI h50 605 T ((hI h50 605 T) + dg)))))) := fun dg hdg hlt => by
    have dr : 2 ≤ dg ∧ dg ≤ 4 := by
      rw [hdg]
      unfold plD
      by_cases y1 : lnA t p 2 ≠ -1
      · rw [if_pos y1]; omega
      · rw [if_neg y1]
        by_cases y2 : lnA t p 3 ≠ -1
        · rw [if_pos y2]; omega
        · rw [if_neg y2]; omega
    rw [if_neg (by omega), ← hdg] at k0 k1
    unfold aiN at k0 k1
    refine s9_newElement (by omega) (by omega) hqT H R O (fun a b ha hb h' f' H' S' F' => ⟨_, rfl, fun _ => k0 (a, b) ?_ h' p f' H' S' F', fun w => absurd rfl w⟩) (fun hl hn h' f' H' O' F' => ⟨_, rfl, fun w => ?_, fun _ => ⟨H'.1, fun _ => ?_⟩⟩)
    · rw [hb]
      rcases ha with ⟨y1, y2⟩ | ⟨y1, y2, y3⟩
      · rw [if_pos y1, y2]
      · rw [if_neg y1, if_pos y2, y3]
    · have := O'.1.1.rg (k := es.length) (by omega)
      omega
    · rw [H'.2.2.2.2.2.2]
      have f2 := jFI_I h' 605 T (p + dg)
      have := k1 _ _ _ _ (by rw [if_neg hl, if_neg (by omega)]) hn _ (f'.trans (f2.fr.mono (by omega) (by omega))) (H'.setP _) (f2.trOK O' (by omega)) (fl9.pre (h1 := h') (o := none) ⟨by rw [hI_sI, if_neg (by omega)], by rw [hI_sI, if_neg (by omega)]⟩ F'.1 F'.2)
      rw [jFI_elV f2] at this
      exact ⟨⟨by omega, by omega⟩, this⟩
  refine ⟨R.1, s7_count R ⟨_, rfl, fun z => ?_, fun z => ⟨q1, fun _ => ?_⟩⟩⟩
  · refine bX9_readPlainAi_28 (fun _ _ => ⟨fun y => by omega, fun _ => ⟨q1, s9_lineAt (d := d + 1) (by decide) H R ⟨_, rfl, fun y => ⟨q1, new 2 (by unfold plD; rw [if_pos y]) z⟩, fun y => ⟨⟨by decide, by decide⟩, ?_⟩⟩⟩⟩)
    rw [show ((2 : Int) + 1) = 3 from rfl]
    refine bX9_readPlainAi_28 (fun _ _ => ⟨fun y => by omega, fun _ => ⟨q1, s9_lineAt (d := d + 1) (by decide) H R ⟨_, rfl, fun y2 => ⟨q1, new 3 (by unfold plD; rw [if_neg (fun w => w y), if_pos y2]) z⟩, fun y2 => ⟨⟨by decide, by decide⟩, ?_⟩⟩⟩⟩)
    rw [show ((3 : Int) + 1) = 4 from rfl]
    exact bX9_readPlainAi_28 (fun _ _ => ⟨fun _ => ⟨q1, new 4 (by unfold plD; rw [if_neg (fun w => w y), if_neg (fun w => w y2)]) z⟩, fun w => absurd (by decide) w⟩)
  · rw [q7]
    have f := jFI_nt h T 1 p
    rw [if_pos (by omega)] at k0
    exact s9_refuse q1 ⟨_, rfl, k0 _ rfl _ p (f.fr.mono (by omega) (by omega)) (H.setF 1 p) (f.trOK O (by omega)).sh (fl9_nt h T 1 p)⟩
end X12
