/-! THE READER OF TEXTS -/
/-- numbers change at the objects of S alone -/
def jFP (S : Nat → Prop) (h h' : jH) : Prop := hR h' = hR h ∧ hQ h' = hQ h ∧ hK h' = hK h ∧ hN h' = hN h ∧ hS h' = hS h ∧ hT h' = hT h ∧ ∀ o, ¬ S o → (∀ f, hI h' f o = hI h f o) ∧ ∀ i, hA h' o i = hA h o i
theorem jFP.rfl {S : Nat → Prop} {h : jH} : jFP S h h := ⟨.refl _, .refl _, .refl _, .refl _, .refl _, .refl _, fun _ _ => ⟨fun _ => .refl _, fun _ => .refl _⟩⟩
theorem jFP.trans {S : Nat → Prop} {h h1 h2 : jH} (p : jFP S h h1) (q : jFP S h1 h2) : jFP S h h2 := by
  obtain ⟨p1, p2, p3, p4, p5, p6, p7⟩ := p
  obtain ⟨q1, q2, q3, q4, q5, q6, q7⟩ := q
  exact ⟨q1.trans p1, q2.trans p2, q3.trans p3, q4.trans p4, q5.trans p5, q6.trans p6, fun o ho => ⟨fun f => ((q7 o ho).1 f).trans ((p7 o ho).1 f), fun i => ((q7 o ho).2 i).trans ((p7 o ho).2 i)⟩⟩
theorem jFP.mono {S S' : Nat → Prop} {h h1 : jH} (p : jFP S h h1) (hs : ∀ o, S o → S' o) : jFP S' h h1 := by
  obtain ⟨p1, p2, p3, p4, p5, p6, p7⟩ := p
  exact ⟨p1, p2, p3, p4, p5, p6, fun o ho => p7 o (fun z => ho (hs o z))⟩
theorem jFI.fp {a b : Nat} {h h1 : jH} {S : Nat → Prop} (p : jFI a b h h1) (hs : ∀ o, a ≤ o → o < b → S o) : jFP S h h1 := by
  obtain ⟨p1, p2, p3, p4, p5, p6, p7⟩ := p
  exact ⟨p1, p2, p3, p4, p5, p6, fun o ho => p7 o (fun z => ho (hs o z.1 z.2))⟩
theorem jFP.row {S : Nat → Prop} {h h1 : jH} (p : jFP S h h1) {r cap : Nat} {l : List Int} (q : isRow h r cap l) (h0 : ¬ S r) (h1' : ¬ S (r + 1)) : isRow h1 r cap l := by
  obtain ⟨p1, p2, p3, p4, p5, p6, p7⟩ := p
  obtain ⟨q1, q2, q3, q4, q5, q6, q7⟩ := q
  exact ⟨by rw [p3]; exact q1, by rw [p1]; exact q2, by rw [p3]; exact q3, by rw [p4]; exact q4, by rw [(p7 r h0).1]; exact q5, q6, fun i hi => by rw [(p7 (r + 1) h1').2]; exact q7 i hi⟩
theorem jFP.fr {S : Nat → Prop} {a b : Nat} {h h1 : jH} (p : jFP S h h1) (hs : ∀ o, S o → a ≤ o ∧ o < b) : jFr a b h h1 := by
  obtain ⟨p1, p2, p3, p4, p5, p6, p7⟩ := p
  exact ⟨p3, p4, p5, p6, fun o ho => ⟨fun f => ⟨(p7 o (fun z => ho (hs o z))).1 f, by rw [p1]⟩, fun i => ⟨(p7 o (fun z => ho (hs o z))).2 i, by rw [p2]⟩⟩⟩
theorem jFP_I {S : Nat → Prop} (h : jH) (f o : Nat) (v : Int) (hs : S o) : jFP S h (sI h f o v) := (jFI_I h f o v).fp (fun p h1 h2 => by rw [show p = o by omega]; exact hs)
def isTR (h : jH) (T q : Nat) (br : Bool) (clk p : Int) : Prop := hK h T = 7 ∧ hR h 600 T = T + 1 ∧ hR h 601 T = T + 64 ∧ hR h 602 T = q ∧ hI h 603 T = b2i br ∧ hI h 604 T = clk ∧ hI h 605 T = p
theorem jFP.tr {S : Nat → Prop} {h h1 : jH} (p : jFP S h h1) {T q : Nat} {br : Bool} {clk pl : Int} (H : isTR h T q br clk pl) (h0 : ¬ S T) : isTR h1 T q br clk pl := by
  obtain ⟨p1, p2, p3, p4, p5, p6, p7⟩ := p
  obtain ⟨q1, q2, q3, q4, q5, q6, q7⟩ := H
  have w := (p7 T h0).1
  exact ⟨by rw [p3]; exact q1, by rw [p1]; exact q2, by rw [p1]; exact q3, by rw [p1]; exact q4, by rw [w]; exact q5, by rw [w]; exact q6, by rw [w]; exact q7⟩
theorem isTR.setP {h : jH} {T q : Nat} {br : Bool} {clk pl : Int} (H : isTR h T q br clk pl) (v : Int) : isTR (sI h 605 T v) T q br clk v := by
  obtain ⟨q1, q2, q3, q4, q5, q6, q7⟩ := H
  exact ⟨q1, q2, q3, q4, by rw [hI_sI, if_neg (by omega)]; exact q5, by rw [hI_sI, if_neg (by omega)]; exact q6, by rw [hI_sI, if_pos ⟨.refl _, .refl _⟩]⟩
theorem isTR.setF {h : jH} {T q : Nat} {br : Bool} {clk pl : Int} (H : isTR h T q br clk pl) (a b : Int) : isTR (sI (sI h 606 T a) 607 T b) T q br clk pl := by
  obtain ⟨q1, q2, q3, q4, q5, q6, q7⟩ := H
  refine ⟨q1, q2, q3, q4, ?_, ?_, ?_⟩
  · rw [hI_sI, if_neg (by omega), hI_sI, if_neg (by omega)]; exact q5
  · rw [hI_sI, if_neg (by omega), hI_sI, if_neg (by omega)]; exact q6
  · rw [hI_sI, if_neg (by omega), hI_sI, if_neg (by omega)]; exact q7
def fl9 (h h' : jH) (T : Nat) : Option (Int × Int) → Prop
  | none => hI h' 606 T = hI h 606 T ∧ hI h' 607 T = hI h 607 T
  | some (a, b) => hI h' 606 T = a ∧ hI h' 607 T = b
theorem fl9.pre {h h1 h2 : jH} {T : Nat} {o : Option (Int × Int)} (p : fl9 h1 h2 T o) (a : hI h1 606 T = hI h 606 T) (b : hI h1 607 T = hI h 607 T) : fl9 h h2 T o := by
  cases o with
  | none => exact ⟨p.1.trans a, p.2.trans b⟩
  | some x => exact p
def ovB (t : List Int) (br : Bool) (p : Int) : Bool := decide (t.length ≤ p ∨ lAt t p = (if br = true then 40 else 29))
def esB (t : List Int) (br : Bool) (p : Int) : Bool := br && decide (lAt t p = 92 ∧ lAt t (p + 1) = 40)
theorem numOf_rg : ∀ (s : List Int) (a : Int) (c : Nat), s.all isD = true → 0 ≤ a → a < 10 ^ c → 0 ≤ s.foldl (fun a c => a * 10 + (c - 48)) a ∧ s.foldl (fun a c => a * 10 + (c - 48)) a < 10 ^ (c + s.length)
  | [], a, c, _, h0, h1 => ⟨h0, h1⟩
  | x :: t, a, c, hs, h0, h1 => by
    rw [List.all_cons, Bool.and_eq_true] at hs
    have y := of_decide_eq_true hs.1
    have e : (10 : Int) ^ (c + 1) = 10 ^ c * 10 := by rw [Int.pow_succ]
    have := numOf_rg t (a * 10 + (x - 48)) (c + 1) hs.2 (by omega) (by omega)
    rw [List.foldl_cons, List.length_cons, show c + (t.length + 1) = c + 1 + t.length by omega]
    exact this
def lnA (t : List Int) (p dg : Int) : Int := if 4 < dg then -1 else if digB t p dg = true then lineV (numOf (seg t p.toNat dg.toNat)) dg else -1
theorem numOf4 {t : List Int} {p dg : Int} (hd : digB t p dg = true) (h4 : dg ≤ 4) : 0 ≤ numOf (seg t p.toNat dg.toNat) ∧ numOf (seg t p.toNat dg.toNat) < 10000 := by
  unfold digB at hd
  rw [Bool.and_eq_true, decide_eq_true_eq] at hd
  obtain ⟨⟨z1, z0, z2⟩, z3⟩ := hd
  have := numOf_rg _ 0 0 z3 (by omega) (by decide)
  rw [seg_len (by omega)] at this
  have e : ∀ k : Nat, k ≤ 4 → (10 : Int) ^ (0 + k) ≤ 10000 := by decide
  have := e dg.toNat (by omega)
  unfold numOf
  omega
section X9
variable {d : Nat} {h : jH} {Q : jO → jH → Prop} {T q cap : Nat} {br : Bool} {clk p : Int} {t : List Int}
theorem s9_refuse {a b : Int} (hT : hK h T = 7) (k : Q (.inl (some (jI 0))) (sI (sI h 606 T a) 607 T b)) : jCall d mX9_refuse [jR T, jI a, jI b] h Q := bX9_refuse (fun _ _ _ => ⟨hT, k⟩)
theorem s9_over (H : isTR h T q br clk p) (R : isRow h q cap t) (k : Q (.inl (some (jI (b2i (ovB t br p))))) h) : jCall (d + 1) mX9_isValueOver [jR T] h Q := by
  obtain ⟨q1, q2, q3, q4, q5, q6, q7⟩ := id H
  unfold ovB at k
  refine bX9_isValueOver (fun _ => ⟨q1, fun _ => ?_⟩)
  rw [q4, q7]
  refine ⟨R.1, s7_count R ⟨_, rfl, fun z => ?_, fun z => ⟨q1, fun _ => ?_⟩⟩⟩
  · rw [decide_eq_true (Or.inl z)] at k; exact k
  · rw [q4, q7]
    refine ⟨R.1, s7_at R ⟨_, rfl, q1, fun _ => ?_⟩⟩
    rw [q5]
    refine ⟨fun y => ?_, fun y => ?_⟩
    · have e : br = false := (b2i_eq _).mp y
      subst e
      refine ⟨fun w => ?_, fun w => ?_⟩
      · rw [decide_eq_false (by rw [if_neg (by decide)]; omega)] at k; exact k
      · rw [decide_eq_true (by rw [if_neg (by decide)]; omega)] at k; exact k
    · have e : br = true := (b2i_ne _).mp y
      subst e
      refine ⟨fun w => ?_, fun w => ?_⟩
      · rw [decide_eq_false (by rw [if_pos rfl]; omega)] at k; exact k
      · rw [decide_eq_true (by rw [if_pos rfl]; omega)] at k; exact k
theorem s9_esc (hp : 0 ≤ p ∧ p ≤ 100000) (H : isTR h T q br clk p) (R : isRow h q cap t) (k : Q (.inl (some (jI (b2i (esB t br p))))) h) : jCall (d + 1) mX9_isEscapedBracket [jR T] h Q := by
  obtain ⟨q1, q2, q3, q4, q5, q6, q7⟩ := id H
  unfold esB at k
  refine bX9_isEscapedBracket (fun _ => ⟨q1, fun _ => ?_⟩)
  rw [q4, q5, q7]
  refine ⟨fun y => ?_, fun y => fun _ => ⟨R.1, s7_at R ⟨_, rfl, fun z => ?_, fun z => ⟨q1, fun _ => ?_⟩⟩⟩⟩
  · rw [(b2i_eq _).mp y, Bool.false_and] at k; exact k
  · rw [decide_eq_false (fun w => z w.1), Bool.and_false] at k; exact k
  · rw [q4, q7]
    refine ⟨⟨by omega, by omega⟩, R.1, s7_at R ⟨_, rfl, fun w => ?_, fun w => ?_⟩⟩
    · rw [decide_eq_false (fun v => w v.2), Bool.and_false] at k; exact k
    · rw [decide_eq_true ⟨z, w⟩, (b2i_ne _).mp y] at k; exact k
theorem s9_lineAt {dg : Int} (h0 : 0 ≤ dg) (H : isTR h T q br clk p) (R : isRow h q cap t) (k : Q (.inl (some (jI (lnA t p dg)))) h) : jCall (d + 2) mX9_lineAt [jR T, jI dg] h Q := by
  obtain ⟨q1, q2, q3, q4, q5, q6, q7⟩ := id H
  unfold lnA at k
  refine bX9_lineAt (fun _ _ => ⟨fun z => ?_, fun z => ⟨q1, fun _ => ?_⟩⟩)
  · rw [if_pos z] at k; exact k
  · rw [if_neg z] at k
    rw [q4, q7]
    refine ⟨R.1, s7_areDigits R ⟨_, rfl, fun y => ⟨q1, fun _ => ?_⟩, fun y => ?_⟩⟩
    · have hd := (b2i_ne _).mp y
      have nr := numOf4 hd (by omega)
      rw [if_pos hd] at k
      rw [q4, q7]
      refine ⟨R.1, s7_digitsAt (by omega) R ⟨_, rfl, ?_⟩⟩
      rw [if_pos hd]
      exact ⟨⟨by omega, by omega⟩, s8_lineOf nr.1 (by omega) (by omega) ⟨_, rfl, k⟩⟩
    · rw [if_neg (by rw [(b2i_eq _).mp y]; decide)] at k; exact k
/-- the bytes of a part: fuel, how many are there, the value so far, the place -/
def rpF (t : List Int) (br : Bool) (part : Int) : Nat → Nat → List Int → Int → List Int × Int × Option (Int × Int)
  | 0, _, v, p => (v, p, none)
  | f + 1, n, v, p =>
    if ovB t br p = true then (if 0 < n ∧ part % 2 ≠ 0 then (v, p, none) else (v, p, some (3, p)))
    else if fitB (if esB t br p = true then 40 else lAt t p) (part / 1000) = true then rpF t br part f (n + 1) (v ++ [if esB t br p = true then 40 else lAt t p]) (p + (if esB t br p = true then 2 else 1))
    else (v, p, some (4, p))
theorem s9_rp_loop {r : Nat} {part : Int} (hpart : 0 ≤ part) (hr : r + 2 ≤ T ∨ T + 1 ≤ r) (hqT : q + 2 ≤ T ∨ T + 1 ≤ q) (hqr : q + 2 ≤ r ∨ r + 2 ≤ q) (htb : ∀ x ∈ t, 0 ≤ x ∧ x < 256) (f : Nat) : ∀ (n : Nat) (v : List Int) (p : Int) (h : jH), n + f = mostV part → v.length + f ≤ 90 → 0 ≤ p → p + 2 * f ≤ 100000 → isTR h T q br clk p → isRow h q cap t → isRow h r 90 v →
    (∀ h', jFP (fun o => o = T ∨ (r ≤ o ∧ o < r + 2)) h h' → isTR h' T q br clk (rpF t br part f n v p).2.1 → isRow h' r 90 (rpF t br part f n v p).1 → fl9 h h' T (rpF t br part f n v p).2.2 → Q (.inl (some (jI (b2i (rpF t br part f n v p).2.2.isNone)))) h') → jWp (d + 7) mX9_readPart 2 [(0, jR T), (1, jR r), (2, jI part), (3, jI n)] [] h Q := by
  have mr := mostV_rg (p := part)
  induction f with
  | zero =>
    intro n v p h hn hv h0 h1 H R V k
    exact bX9_readPart_2 (fun _ _ _ => s8_mostBytes hpart ⟨_, rfl, fun _ => k h .rfl H V ⟨rfl, rfl⟩, fun z => by unfold mostV at hn; omega⟩)
  | succ f ih =>
    intro n v p h hn hv h0 h1 H R V k
    obtain ⟨q1, q2, q3, q4, q5, q6, q7⟩ := id H
    unfold rpF at k
    have lb : -1 ≤ lAt t p ∧ lAt t p < 256 := by
      have := lAt_all (a := -1) (b := 255) (fun x hx => by have := htb x hx; omega) (by decide) (by decide) (l := t) p
      omega
    have ref : ∀ a : Int, (∀ h', jFP (fun o => o = T ∨ (r ≤ o ∧ o < r + 2)) h h' → isTR h' T q br clk p → isRow h' r 90 v → fl9 h h' T (some (a, p)) → Q (.inl (some (jI 0))) h') → hK h T = 7 ∧ (j32 (hI h 605 T) → jCall (d + 6) mX9_refuse [jR T, jI a, jI (hI h 605 T)] h (fun o h37 => ∃ v37, o = .inl (some (jI v37)) ∧ (0 ≤ v37 ∧ v37 ≤ 1) ∧ Q (.inl (some (jI v37))) h37)) := fun a kk => by
      refine ⟨q1, fun _ => ?_⟩
      rw [q7]
      have ff : jFP (fun o => o = T ∨ (r ≤ o ∧ o < r + 2)) h (sI (sI h 606 T a) 607 T p) := (jFP_I h 606 T a (Or.inl rfl)).trans (jFP_I _ 607 T p (Or.inl rfl))
      refine s9_refuse q1 ⟨_, rfl, by decide, kk _ ff (H.setF a p) (((jFI_I h 606 T a).trans (jFI_I _ 607 T p)).row V (by omega)) ⟨?_, ?_⟩⟩
      · rw [hI_sI, if_neg (by omega), hI_sI, if_pos ⟨.refl _, .refl _⟩]
      · rw [hI_sI, if_pos ⟨.refl _, .refl _⟩]
    have put : ∀ (b : Int) (es : Bool), esB t br p = es → b = (if es = true then 40 else lAt t p) → ¬ ovB t br p = true → fitB b (part / 1000) = true → hK h r = 6 ∧ jCall (d + 6) mX7_put [jR r, jI b] h (fun o h95 => o = .inl none ∧ hK h95 T = 7 ∧ (j32 (hI h95 605 T) → ((b2i es = 0 → jWp (d + 7) mX9_readPart 113 [(0, jR T), (1, jR r), (2, jI part), (3, jI n)] [jI 1, jI (hI h95 605 T), jR T] h95 Q) ∧ (¬ (b2i es = 0) → jWp (d + 7) mX9_readPart 113 [(0, jR T), (1, jR r), (2, jI part), (3, jI n)] [jI 2, jI (hI h95 605 T), jR T] h95 Q)))) := fun b es he hb no fit => by
      rw [if_neg no, he, ← hb, if_pos fit] at k
      refine ⟨V.1, s7_put V (fun g f1 V1 => ⟨rfl, ?_⟩)⟩
      rw [lput_app (by omega)] at V1
      have H1 : isTR g T q br clk p := (f1.fp (S := fun o => r ≤ o ∧ o < r + 2) (fun o a b => ⟨a, b⟩)).tr H (by omega)
      have e7 : hI g 605 T = p := H1.2.2.2.2.2.2
      have go : ∀ w : Int, w = (if es = true then 2 else 1) → jWp (d + 7) mX9_readPart 113 [(0, jR T), (1, jR r), (2, jI part), (3, jI n)] [jI w, jI (hI g 605 T), jR T] g Q := fun w hw => by
        have wr : 1 ≤ w ∧ w ≤ 2 := by rw [hw]; split <;> omega
        rw [e7]
        refine bX9_readPart_113 (fun _ _ _ => ⟨⟨by omega, by omega⟩, H1.1, ⟨by omega, by omega⟩, ?_⟩)
        have f2 := jFI_I g 605 T (p + w)
        have fS : jFP (fun o => o = T ∨ (r ≤ o ∧ o < r + 2)) h (sI g 605 T (p + w)) := (f1.fp (fun o a b => Or.inr ⟨a, b⟩)).trans (jFP_I g 605 T _ (Or.inl rfl))
        have c7 := (f1.2.2.2.2.2.2 T (by omega)).1
        refine ih (n + 1) (v ++ [b]) (p + w) _ (by omega) (by simp; omega) (by omega) (by omega) (H1.setP _) ((fS.row R (by omega) (by omega))) (f2.row V1 (by omega)) (fun h' f3 H3 V3 F3 => ?_)
        rw [← hw] at k
        exact k h' (fS.trans f3) H3 V3 (F3.pre (by rw [hI_sI, if_neg (by omega)]; exact c7 606) (by rw [hI_sI, if_neg (by omega)]; exact c7 607))
      exact ⟨H1.1, fun _ => ⟨fun z => go 1 (by rw [(b2i_eq _).mp z]; rfl), fun z => go 2 (by rw [(b2i_ne _).mp z]; rfl)⟩⟩
    have fit : ∀ (b : Int) (es : Bool), esB t br p = es → b = (if es = true then 40 else lAt t p) → ¬ ovB t br p = true → b < 65536 → jCall (d + 6) mX8_sort [jI part] h (fun o h73 => ∃ v73, o = .inl (some (jI v73)) ∧ jCall (d + 6) mX8_fits [jI b, jI v73] h73 (fun o h76 => ∃ v76, o = .inl (some (jI v76)) ∧ ((v76 ≠ 0 → hK h76 r = 6 ∧ jCall (d + 6) mX7_put [jR r, jI b] h76 (fun o h95 => o = .inl none ∧ hK h95 T = 7 ∧ (j32 (hI h95 605 T) → ((b2i es = 0 → jWp (d + 7) mX9_readPart 113 [(0, jR T), (1, jR r), (2, jI part), (3, jI n)] [jI 1, jI (hI h95 605 T), jR T] h95 Q) ∧ (¬ (b2i es = 0) → jWp (d + 7) mX9_readPart 113 [(0, jR T), (1, jR r), (2, jI part), (3, jI n)] [jI 2, jI (hI h95 605 T), jR T] h95 Q))))) ∧ (v76 = 0 → hK h76 T = 7 ∧ (j32 (hI h76 605 T) → jCall (d + 6) mX9_refuse [jR T, jI 4, jI (hI h76 605 T)] h76 (fun o h88 => ∃ v88, o = .inl (some (jI v88)) ∧ (0 ≤ v88 ∧ v88 ≤ 1) ∧ Q (.inl (some (jI v88))) h88)))))) := fun b es he hb no hlt => by
      refine s8_sort hpart ⟨_, rfl, s8_fits hlt ⟨_, rfl, fun z => put b es he hb no ((b2i_ne _).mp z), fun z => ?_⟩⟩
      rw [if_neg no, he, ← hb, if_neg (by rw [(b2i_eq _).mp z]; decide)] at k
      exact ref 4 k
    refine bX9_readPart_2 (fun _ _ _ => s8_mostBytes hpart ⟨_, rfl, fun z => by unfold mostV at hn; omega, fun _ => ⟨q1, s9_over H R ⟨_, rfl, fun z => ?_, fun z => ?_⟩⟩⟩)
    · have no : ¬ ovB t br p = true := by rw [(b2i_eq _).mp z]; decide
      refine ⟨q1, s9_esc ⟨h0, by omega⟩ H R ⟨_, rfl, fun y => ⟨q1, fun _ => ?_⟩, fun y => ?_⟩⟩
      · rw [q4, q7]
        refine ⟨R.1, s7_at R ⟨_, rfl, ?_⟩⟩
        exact fit (lAt t p) (esB t br p) rfl (by rw [(b2i_eq _).mp y]; rfl) no (by omega)
      · exact fit 40 (esB t br p) rfl (by rw [(b2i_ne _).mp y]; rfl) no (by decide)
    · rw [if_pos ((b2i_ne _).mp z)] at k
      refine ⟨fun y => ?_, fun y => s8_mayBeShorter ⟨_, rfl, fun w => ?_, fun w => ?_⟩⟩
      · rw [if_neg (by omega)] at k; exact ref 3 k
      · rw [if_neg (by omega)] at k; exact ref 3 k
      · rw [if_pos ⟨by omega, w⟩] at k; exact k h .rfl H V ⟨rfl, rfl⟩
end X9
