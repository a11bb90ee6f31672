/-! THE READER OF TEXTS: identifiers in brackets; the whole text -/
section X13
variable {d : Nat} {h : jH} {Q : jO → jH → Prop} {T q cap : Nat} {br : Bool} {clk p : Int} {t : List Int} {es : List jE} {ps : List Int}
theorem s9_readBracketedAi (hp : 0 ≤ p ∧ p ≤ 90000) (htl : t.length ≤ 90000) (hqT : q + 2 ≤ T ∨ T + 66 ≤ q) (H : isTR h T q br clk p) (R : isRow h q cap t) (O : trOK h T es ps)
    (k0 : ∀ x, aiB t p es.length = .inl x → ∀ h' p', jFr T (T + 66) h h' → isTR h' T q br clk p' → trSh h' T → fl9 h h' T (some x) → Q (.inl (some (jR 0))) h')
    (k1 : ∀ a dg pa p', aiB t p es.length = .inr (a, dg, pa, p') → es.length < 20 → ∀ h', jFr T (T + 66) h h' → isTR h' T q br clk p' → trOK h' T (es ++ [(a, dg, [], clk)]) (ps ++ [pa]) → fl9 h h' T none → Q (.inl (some (jR (elV h' (T + 1) es.length)))) h') : jCall (d + 4) mX9_readBracketedAi [jR T] h Q := by
  obtain ⟨q1, q2, q3, q4, q5, q6, q7⟩ := id H
  unfold aiB at k0 k1
  have H0 := H.setP (p + 1)
  have f0 := jFI_I h 605 T (p + 1)
  have R0 := f0.row R (by omega)
  have O0 := f0.trOK O (by omega)
  have w0 : fl9 h (sI h 605 T (p + 1)) T none := ⟨by rw [hI_sI, if_neg (by omega)], by rw [hI_sI, if_neg (by omega)]⟩
  have new : ∀ e : Int, e = clF t t.length (p + 1) → lAt t p = 40 → p + 1 < t.length → hK (sI h 605 T (p + 1)) T = 7 ∧ (j32 (hI (sI h 605 T (p + 1)) 605 T) → j32 (e - (hI (sI h 605 T (p + 1)) 605 T)) ∧ jCall (d + 3) mX9_newElement [jR T, jI (e - (hI (sI h 605 T (p + 1)) 605 T))] (sI h 605 T (p + 1)) (fun o h106 => ∃ v106, o = .inl (some (jR v106)) ∧ ((v106 ≠ 0 → hK h106 T = 7 ∧ (j32 (hI (sI h106 605 T e) 605 T) → hK h106 (hR h106 602 T) = 6 ∧ jCall (d + 3) mX7_count [jR (hR h106 602 T)] (sI h106 605 T e) (fun o h129 => ∃ v129, o = .inl (some (jI v129)) ∧ (((hI (sI h106 605 T e) 605 T) < v129 → hK h129 T = 7 ∧ (j32 (hI h129 605 T) → j32 ((hI h129 605 T) + 1) ∧ Q (.inl (some (jR v106))) (sI h129 605 T ((hI h129 605 T) + 1)))) ∧ (¬ ((hI (sI h106 605 T e) 605 T) < v129) → hK h129 T = 7 ∧ (j32 (hI h129 605 T) → jCall (d + 3) mX9_refuse [jR T, jI 1, jI (hI h129 605 T)] h129 (fun o h141 => ∃ v141, o = .inl (some (jI v141)) ∧ Q (.inl (some (jR 0))) h141))))))) ∧ (¬ (v106 ≠ 0) → Q (.inl (some (jR 0))) h106)))) := by
    intro e he h40 hlt
    have er := clF_rg t t.length (p + 1)
    rw [← he] at er
    rw [if_neg (by omega), if_neg (by omega), ← he] at k0 k1
    refine ⟨q1, fun _ => ?_⟩
    rw [H0.2.2.2.2.2.2]
    refine ⟨⟨by omega, by omega⟩, s9_newElement (by omega) (by omega) hqT H0 R0 O0 (fun a b ha hb h' f' H' S' F' => ⟨_, rfl, fun w => absurd rfl w, fun _ => ?_⟩) (fun hl hn h' f' H' O' F' => ⟨_, rfl, fun _ => ⟨H'.1, fun _ => ?_⟩, fun w => ?_⟩)⟩
    · refine k0 (a, b) ?_ h' _ ((f0.fr.mono (by omega) (by omega)).trans f') H' S' (F'.pre w0.1 w0.2)
      unfold aiN
      rw [hb]
      rcases ha with ⟨y1, y2⟩ | ⟨y1, y2, y3⟩
      · rw [if_pos y1, y2]
      · rw [if_neg y1, if_pos y2, y3]
    · have f2 := jFI_I h' 605 T e
      have H2 := H'.setP e
      have fr2 : jFr T (T + 66) h (sI h' 605 T e) := (f0.fr.mono (by omega) (by omega)).trans (f'.trans (f2.fr.mono (by omega) (by omega)))
      have R2 := fr2.row R (by omega)
      have ea : aiN t (p + 1) (e - (p + 1)) (e + 1) es.length = .inr (numOf (seg t (p + 1).toNat (e - (p + 1)).toNat), e - (p + 1), p + 1, e + 1) := by
        unfold aiN
        rw [if_neg hl, if_neg (by omega)]
      rw [ea] at k0 k1
      have wz : fl9 h (sI h' 605 T e) T none := ⟨by rw [hI_sI, if_neg (by omega)]; exact F'.1.trans w0.1, by rw [hI_sI, if_neg (by omega)]; exact F'.2.trans w0.2⟩
      rw [H'.2.2.2.1, H2.2.2.2.2.2.2]
      refine ⟨R2.1, s7_count R2 ⟨_, rfl, fun y => ⟨H2.1, fun _ => ?_⟩, fun y => ⟨H2.1, fun _ => ?_⟩⟩⟩
      · rw [H2.2.2.2.2.2.2]
        have f3 := jFI_I (sI h' 605 T e) 605 T (e + 1)
        have := k1 _ _ _ _ (if_neg (by omega)) hn _ (fr2.trans (f3.fr.mono (by omega) (by omega))) (H2.setP _) (f3.trOK (f2.trOK O' (by omega)) (by omega)) ⟨by rw [hI_sI, if_neg (by omega)]; exact wz.1, by rw [hI_sI, if_neg (by omega)]; exact wz.2⟩
        rw [jFI_elV f3, jFI_elV f2] at this
        exact ⟨⟨by omega, by omega⟩, this⟩
      · rw [H2.2.2.2.2.2.2]
        have f3 := jFI_nt (sI h' 605 T e) T 1 e
        exact s9_refuse H2.1 ⟨_, rfl, k0 (1, e) (if_pos (by omega)) _ e (fr2.trans (f3.fr.mono (by omega) (by omega))) (H2.setF 1 e) (f3.trOK (f2.trOK O' (by omega)) (by omega)).sh (fl9_nt _ T 1 e)⟩
    · have := O'.1.1.rg (k := es.length) (by have := O'.1.2.2.1; simp at this; omega)
      omega
  have loop : lAt t p = 40 → p + 1 < t.length → ∀ C : Int, C = clF t t.length (p + 1) → ∀ (n : Nat) (e : Int), clF t n e = C → 0 ≤ e → e ≤ t.length → t.length ≤ e + n → jWp (d + 4) mX9_readBracketedAi 69 [(0, jR T), (1, jI e)] [] (sI h 605 T (p + 1)) Q := by
    intro h40 hlt C hC n
    induction n with
    | zero =>
      intro e he h0 h1 h2
      refine bX9_readBracketedAi_69 (fun _ _ => ⟨q1, ?_⟩)
      rw [H0.2.2.2.1]
      exact ⟨R0.1, s7_count R0 ⟨_, rfl, fun _ => new e (Eq.trans he hC) h40 hlt, fun z => by omega⟩⟩
    | succ n ih =>
      intro e he h0 h1 h2
      unfold clF at he
      refine bX9_readBracketedAi_69 (fun _ _ => ⟨q1, ?_⟩)
      rw [H0.2.2.2.1]
      refine ⟨R0.1, s7_count R0 ⟨_, rfl, fun z => ?_, fun z => ⟨q1, ?_⟩⟩⟩
      · rw [if_pos z] at he
        exact new e (Eq.trans he hC) h40 hlt
      · rw [if_neg z] at he
        rw [H0.2.2.2.1]
        refine ⟨R0.1, s7_at R0 ⟨_, rfl, fun y => ?_, fun y => ⟨⟨by omega, by omega⟩, ?_⟩⟩⟩
        · rw [if_pos y] at he
          exact new e (Eq.trans he hC) h40 hlt
        · rw [if_neg y] at he
          exact ih (e + 1) he (by omega) (by omega) (by omega)
  refine bX9_readBracketedAi (fun _ => ⟨q1, fun _ => ?_⟩)
  rw [q4, q7]
  refine ⟨R.1, s7_at R ⟨_, rfl, fun z => ⟨q1, fun _ => ?_⟩, fun z => ⟨q1, fun _ => ?_⟩⟩⟩
  · rw [q4, q7, H0.2.2.2.2.2.2]
    refine ⟨⟨by omega, by omega⟩, fun _ => ⟨R.1, s7_count R0 ⟨_, rfl, fun y => ⟨q1, fun _ => ?_⟩, fun y => ⟨q1, fun _ => ?_⟩⟩⟩⟩
    · rw [H0.2.2.2.2.2.2]
      exact loop z y _ rfl t.length (p + 1) rfl (by omega) (by omega) (by omega)
    · rw [H0.2.2.2.2.2.2]
      have f3 := jFI_nt (sI h 605 T (p + 1)) T 1 (p + 1)
      rw [if_neg (by omega), if_pos (by omega)] at k0
      exact s9_refuse q1 ⟨_, rfl, k0 _ rfl _ _ ((f0.fr.mono (by omega) (by omega)).trans (f3.fr.mono (by omega) (by omega))) (H0.setF 1 (p + 1)) (f3.trOK O0 (by omega)).sh (fl9_nt _ T 1 (p + 1))⟩
  · rw [q7]
    have f := jFI_nt h T 1 p
    rw [if_pos z] at k0
    exact s9_refuse q1 ⟨_, rfl, k0 _ rfl _ p (f.fr.mono (by omega) (by omega)) (H.setF 1 p) (f.trOK O (by omega)).sh (fl9_nt h T 1 p)⟩
/-- whether they go together: the first fault -/
def jtF (es : List jE) (ps : List Int) (asks : Bool) : Nat → Nat → Option (Int × Int)
  | 0, _ => none
  | n + 1, k => if repB es k = true then some (7, lAt ps k) else if asks = true ∧ metW es k = false then some (8, lAt ps k) else jtF es ps asks n (k + 1)
theorem s9_judge_loop {asks : Bool} (H : isTR h T q br clk p) (O : trOK h T es ps) (n : Nat) : ∀ k : Nat, k + n = es.length → (∀ h', jFI T (T + 1) h h' → isTR h' T q br clk p → fl9 h h' T (jtF es ps asks n k) → Q (.inl none) h') → jWp (d + 4) mX9_judgeTogether 2 [(0, jR T), (1, jI (b2i asks)), (2, jI k)] [] h Q := by
  obtain ⟨q1, q2, q3, q4, q5, q6, q7⟩ := id H
  have l20 := O.1.2.2.1
  induction n with
  | zero =>
    intro k hk kk
    refine bX9_judgeTogether_2 (fun _ _ _ => ⟨q1, ?_⟩)
    rw [q2]
    exact ⟨O.1.1.1, s6_count O.1 ⟨_, rfl, fun _ => kk h .rfl H ⟨rfl, rfl⟩, fun z => by omega⟩⟩
  | succ n ih =>
    intro k hk kk
    unfold jtF at kk
    have ref : ∀ a : Int, (∀ h', jFI T (T + 1) h h' → isTR h' T q br clk p → fl9 h h' T (some (a, lAt ps k)) → Q (.inl none) h') → hK h T = 7 ∧ hK h (hR h 601 T) = 6 ∧ jCall (d + 3) mX7_at [jR (hR h 601 T), jI k] h (fun o h32 => ∃ v32, o = .inl (some (jI v32)) ∧ hK h32 T = 7 ∧ jCall (d + 3) mX9_refuse [jR T, jI a, jI v32] h32 (fun o h35 => ∃ v35, o = .inl (some (jI v35)) ∧ Q (.inl none) h35)) := fun a k2 => by
      rw [q3]
      exact ⟨q1, O.2.1.1, s7_at O.2.1 ⟨_, rfl, q1, s9_refuse q1 ⟨_, rfl, k2 _ (jFI_nt h T a _) (H.setF a _) (fl9_nt h T a _)⟩⟩⟩
    refine bX9_judgeTogether_2 (fun _ _ _ => ⟨q1, ?_⟩)
    rw [q2]
    refine ⟨O.1.1.1, s6_count O.1 ⟨_, rfl, fun z => by omega, fun _ => ⟨q1, ?_⟩⟩⟩
    rw [q2]
    refine ⟨O.1.1.1, s6_isRepeated (d := d + 1) O.1 ⟨_, rfl, fun z => ⟨fun y => ⟨⟨by omega, by omega⟩, ?_⟩, fun y => ⟨q1, ?_⟩⟩, fun z => ?_⟩⟩
    · rw [if_neg (by rw [(b2i_eq _).mp z]; decide), if_neg (by rw [(b2i_eq _).mp y]; simp)] at kk
      exact ih (k + 1) (by omega) kk
    · rw [q2]
      rw [if_neg (by rw [(b2i_eq _).mp z]; decide)] at kk
      refine ⟨O.1.1.1, s6_isWantMet O.1 ⟨_, rfl, fun w => ⟨⟨by omega, by omega⟩, ?_⟩, fun w => ?_⟩⟩
      · rw [if_neg (by rw [(b2i_ne _).mp w]; simp)] at kk
        exact ih (k + 1) (by omega) kk
      · rw [if_pos ⟨(b2i_ne _).mp y, (b2i_eq _).mp w⟩] at kk
        exact ref 8 kk
    · rw [if_pos ((b2i_ne _).mp z)] at kk
      exact ref 7 kk
theorem s9_judgeTogether {asks : Bool} (H : isTR h T q br clk p) (O : trOK h T es ps) (k : ∀ h', jFI T (T + 1) h h' → isTR h' T q br clk p → fl9 h h' T (jtF es ps asks es.length 0) → Q (.inl none) h') : jCall (d + 4) mX9_judgeTogether [jR T, jI (b2i asks)] h Q :=
  bX9_judgeTogether (fun _ _ => s9_judge_loop H O es.length 0 (by omega) k)
end X13
