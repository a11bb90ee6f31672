/-! PARTS OF ELEMENTS, THEIR WRITING -/
def mostV (p : Int) : Int := p / 10 % 100
theorem partV_nn0 : ∀ n : Nat, n < 65 → ∀ j : Nat, j < 4 → 0 ≤ LN (8 * (n : Int) + 4 + j) := by decide +kernel
theorem partV_nn {ln : Int} (h : ln < 65) (j : Int) : 0 ≤ partV ln j := by
  unfold partV
  split
  · rename_i hj
    unfold cellV
    split
    · omega
    · rename_i hc
      have := partV_nn0 ln.toNat (by omega) j.toNat (by omega)
      rw [show 8 * ((ln.toNat : Nat) : Int) + 4 + ((j.toNat : Nat) : Int) = ln * 8 + (4 + j) by omega] at this
      exact this
  · omega
theorem mostV_rg {p : Int} : 0 ≤ mostV p ∧ mostV p < 100 := by unfold mostV; omega
def sumM (ln : Int) : Nat → Int
  | 0 => 0
  | n + 1 => sumM ln n + mostV (partV ln n)
theorem sumM_rg (ln : Int) : ∀ n : Nat, 0 ≤ sumM ln n ∧ sumM ln n ≤ 100 * n
  | 0 => by simp [sumM]
  | n + 1 => by
    have := sumM_rg ln n
    have := mostV_rg (p := partV ln n)
    simp only [sumM]
    omega
/-- where part j begins -/
def pbV (ln : Int) (len : Int) (j : Int) : Int := if partV ln j = 0 then -1 else if sumM ln j.toNat < len then sumM ln j.toNat else -1
def pzV (ln : Int) (len : Int) (j : Int) : Int := if pbV ln len j = -1 then -1 else min (mostV (partV ln j)) (len - pbV ln len j)
def psV (ln j : Int) : Int := partV ln j / 1000
def pcV (ln len : Int) : Nat → Int
  | 0 => 0
  | n + 1 => (if pbV ln len (4 - (n + 1 : Nat)) = -1 then 0 else 1) + pcV ln len n
theorem pbV_rg {ln len j : Int} : -1 ≤ pbV ln len j ∧ pbV ln len j ≤ 400 ∧ (pbV ln len j ≠ -1 → 0 ≤ pbV ln len j ∧ pbV ln len j < len ∧ 0 ≤ j ∧ j < 4) := by
  unfold pbV
  have s := sumM_rg ln j.toNat
  split
  · omega
  · rename_i hp
    have : 0 ≤ j ∧ j < 4 := by
      by_cases z : 0 ≤ j ∧ j < 4
      · exact z
      · exact absurd (show partV ln j = 0 from if_neg z) hp
    split <;> omega
section E5
variable {d : Nat} {h : jH} {Q : jO → jH → Prop} {e : Nat} {x : jE}
theorem s4_partBegin_loop (H : isEl h e x) {j : Int} (hj : 0 ≤ j ∧ j < 4) (hp : partV (lineV x.1 x.2.1) j ≠ 0) (k : Q (.inl (some (jI (pbV (lineV x.1 x.2.1) x.2.2.1.length j)))) h) (n : Nat) : ∀ i : Nat, j.toNat - i = n → i ≤ j.toNat → jWp (d + 2) mX4_partBegin 17 [(0, jR e), (1, jI j), (2, jI (sumM (lineV x.1 x.2.1) i)), (3, jI i)] [] h Q := by
  have lr := lineV_rg x.1 x.2.1
  induction n with
  | zero =>
    intro i hn hi
    refine bX4_partBegin_17 (fun _ _ _ _ => ⟨fun _ => ⟨H.1, ?_⟩, fun z => by omega⟩)
    rw [H.2.1]
    unfold pbV at k
    rw [if_neg hp, show j.toNat = i by omega] at k
    refine ⟨H.2.2.1.1, s7_count H.2.2.1 ⟨_, rfl, fun z => ?_, fun z => ?_⟩⟩
    · rw [if_neg (by omega)] at k; exact k
    · rw [if_pos (by omega)] at k; exact k
  | succ n ih =>
    intro i hn hi
    refine bX4_partBegin_17 (fun _ _ _ _ => ⟨fun z => by omega, fun z => ⟨H.1, fun _ => ?_⟩⟩)
    rw [H.2.2.2.2.2.1]
    have s := sumM_rg (lineV x.1 x.2.1) i
    have m := mostV_rg (p := partV (lineV x.1 x.2.1) i)
    refine s8_partAt (by omega) (by omega) ⟨_, rfl, s8_mostBytes (partV_nn (by omega) _) ⟨_, rfl, ⟨?_, ?_⟩, ⟨by omega, by omega⟩, ?_⟩⟩
    · unfold mostV at m; omega
    · unfold mostV at m; omega
    · exact ih (i + 1) (by omega) (by omega)
theorem s4_partBegin {j : Int} (H : isEl h e x) (k : Q (.inl (some (jI (pbV (lineV x.1 x.2.1) x.2.2.1.length j)))) h) : jCall (d + 2) mX4_partBegin [jR e, jI j] h Q := by
  have lr := lineV_rg x.1 x.2.1
  refine bX4_partBegin (fun _ _ => ⟨H.1, fun _ => ?_⟩)
  rw [H.2.2.2.2.2.1]
  refine s8_partAt (by omega) (by omega) ⟨_, rfl, fun z => ?_, fun z => ?_⟩
  · have hj : 0 ≤ j ∧ j < 4 := by
      by_cases y : 0 ≤ j ∧ j < 4
      · exact y
      · exact absurd (show partV _ j = 0 from if_neg y) z
    exact s4_partBegin_loop H hj z k j.toNat 0 (by omega) (by omega)
  · unfold pbV at k
    rw [if_pos z] at k
    exact k
theorem s4_partBytes {j : Int} (H : isEl h e x) (k : Q (.inl (some (jI (pzV (lineV x.1 x.2.1) x.2.2.1.length j)))) h) : jCall (d + 3) mX4_partBytes [jR e, jI j] h Q := by
  have lr := lineV_rg x.1 x.2.1
  have pr := pbV_rg (ln := lineV x.1 x.2.1) (len := x.2.2.1.length) (j := j)
  have rl := H.2.2.1.2.2.2.2.2.1
  unfold pzV at k
  refine bX4_partBytes (fun _ _ => ⟨H.1, s4_partBegin H ⟨_, rfl, fun z => ⟨H.1, fun _ => ?_⟩, fun z => ?_⟩⟩)
  · rw [H.2.2.2.2.2.1]
    refine s8_partAt (by omega) (by omega) ⟨_, rfl, s8_mostBytes (partV_nn (by omega) _) ⟨_, rfl, H.1, ?_⟩⟩
    rw [H.2.1]
    rw [if_neg z] at k
    exact ⟨H.2.2.1.1, s7_count H.2.2.1 ⟨_, rfl, ⟨by omega, by omega⟩, s9_min ⟨_, rfl, k⟩⟩⟩
  · rw [if_pos z] at k
    exact k
theorem s4_partSort {j : Int} (H : isEl h e x) (k : Q (.inl (some (jI (psV (lineV x.1 x.2.1) j)))) h) : jCall (d + 2) mX4_partSort [jR e, jI j] h Q := by
  have lr := lineV_rg x.1 x.2.1
  refine bX4_partSort (fun _ _ => ⟨H.1, fun _ => ?_⟩)
  rw [H.2.2.2.2.2.1]
  exact s8_partAt (by omega) (by omega) ⟨_, rfl, s8_sort (partV_nn (by omega) _) ⟨_, rfl, k⟩⟩
theorem s4_parts_loop (H : isEl h e x) (n : Nat) : ∀ (i : Nat) (a : Int), i + n = 4 → 0 ≤ a → a ≤ i → Q (.inl (some (jI (a + pcV (lineV x.1 x.2.1) x.2.2.1.length n)))) h → jWp (d + 3) mX4_parts 4 [(0, jR e), (1, jI a), (2, jI i)] [] h Q := by
  induction n with
  | zero =>
    intro i a hn h0 h1 k
    refine bX4_parts_4 (fun _ _ _ => ⟨fun _ => ?_, fun z => by omega⟩)
    simp only [pcV, Int.add_zero] at k
    exact k
  | succ n ih =>
    intro i a hn h0 h1 k
    simp only [pcV, show (4 - ((n + 1 : Nat) : Int)) = i by omega] at k
    refine bX4_parts_4 (fun _ _ _ => ⟨fun z => by omega, fun z => ⟨H.1, s4_partBegin H ⟨_, rfl, fun z => ⟨⟨by omega, by omega⟩, ?_⟩, fun z => ⟨⟨by omega, by omega⟩, ⟨by omega, by omega⟩, ?_⟩⟩⟩⟩)
    · rw [if_pos z, Int.zero_add] at k
      exact ih (i + 1) a (by omega) (by omega) (by omega) k
    · rw [if_neg z, ← Int.add_assoc] at k
      exact ih (i + 1) (a + 1) (by omega) (by omega) (by omega) k
theorem s4_parts (H : isEl h e x) (k : Q (.inl (some (jI (pcV (lineV x.1 x.2.1) x.2.2.1.length 4)))) h) : jCall (d + 3) mX4_parts [jR e] h Q :=
  bX4_parts (fun _ => s4_parts_loop H 4 0 0 (by omega) (by omega) (by omega) (by rw [Int.zero_add]; exact k))
/-- an AI's digits -/
def aiF (a : Int) : Nat → Int → List Int
  | 0, _ => []
  | n + 1, u => (48 + a / u % 10) :: aiF a n (max (u / 10) 1)
def aiStr (a dg : Int) : List Int := aiF a dg.toNat (if dg = 4 then 1000 else if dg = 3 then 100 else 10)
theorem aiF_len (a : Int) : ∀ (n : Nat) (u : Int), (aiF a n u).length = n
  | 0, _ => rfl
  | n + 1, u => by simp [aiF, aiF_len a n]
theorem lput_app {cap : Nat} {l : List Int} {v : Int} (h : l.length < cap) : lput cap l v = l ++ [v] := if_pos h
theorem s4_writeAi_loop {r cap : Nat} (hd : r + 2 ≤ e ∨ e + 3 ≤ r) (n : Nat) : ∀ (i : Nat) (u : Int) (h : jH) (l : List Int), i + n = x.2.1 → 1 ≤ u → u < 10000 → l.length + n ≤ cap → isEl h e x → isRow h r cap l → (∀ h', jFI r (r + 2) h h' → isRow h' r cap (l ++ aiF x.1 n u) → Q (.inl none) h') → jWp (d + 1) mX4_writeAi 32 [(0, jR e), (1, jR r), (2, jI u), (3, jI i)] [] h Q := by
  induction n with
  | zero =>
    intro i u h l hn h1 h2 hc H R k
    refine bX4_writeAi_32 (fun _ _ _ => ⟨H.1, fun _ => ⟨fun _ => ?_, fun z => ?_⟩⟩)
    · exact k h .rfl (by simpa [aiF] using R)
    · rw [H.2.2.2.2.1] at z
      omega
  | succ n ih =>
    intro i u h l hn h1 h2 hc H R k
    refine bX4_writeAi_32 (fun _ _ _ => ⟨H.1, fun _ => ⟨fun z => ?_, fun z => fun _ => ?_⟩⟩)
    · rw [H.2.2.2.2.1] at z
      omega
    · rw [H.2.2.2.1]
      have h0 := H.2.2.2.2.2.2.2.2.1
      have d1 := H.2.2.2.2.2.2.2.2.2.2
      have hq : 0 ≤ x.1 / u := Int.ediv_nonneg h0 (by omega)
      refine ⟨h0, by omega, hq, ⟨by omega, by omega⟩, R.1, s7_put R (fun h' f1 R' => ⟨rfl, by omega, s9_max ⟨_, rfl, ⟨by omega, by omega⟩, ?_⟩⟩)⟩
      rw [lput_app (by omega)] at R'
      refine ih (i + 1) _ h' _ (by omega) (by omega) (by omega) (by simp; omega) (f1.el H (by omega)) R' (fun h2 f2 R2 => k h2 (f1.trans f2) ?_)
      simpa [aiF] using R2
theorem s4_writeAi {r cap : Nat} {l : List Int} (hd : r + 2 ≤ e ∨ e + 3 ≤ r) (hc : l.length + x.2.1 ≤ cap) (H : isEl h e x) (R : isRow h r cap l) (k : ∀ h', jFI r (r + 2) h h' → isRow h' r cap (l ++ aiStr x.1 x.2.1) → Q (.inl none) h') : jCall (d + 1) mX4_writeAi [jR e, jR r] h Q := by
  have d1 := H.2.2.2.2.2.2.2.2.2.2
  unfold aiStr at k
  refine bX4_writeAi (fun _ => ⟨H.1, fun _ => ?_⟩)
  rw [H.2.2.2.2.1]
  refine ⟨fun z => ⟨fun y => ?_, fun y => ?_⟩, fun z => ?_⟩
  · rw [if_neg z, if_neg y] at k
    exact s4_writeAi_loop hd x.2.1.toNat 0 10 h l (by omega) (by decide) (by decide) (by omega) H R k
  · rw [if_neg z, if_pos y] at k
    exact s4_writeAi_loop hd x.2.1.toNat 0 100 h l (by omega) (by decide) (by decide) (by omega) H R k
  · rw [if_pos z] at k
    exact s4_writeAi_loop hd x.2.1.toNat 0 1000 h l (by omega) (by decide) (by decide) (by omega) H R k
def escV (b : List Int) : List Int := b.flatMap (fun c => if c = 40 then [92, c] else [c])
theorem escV_cons (c : Int) (t : List Int) : escV (c :: t) = (if c = 40 then [92, c] else [c]) ++ escV t := rfl
theorem escV_len : ∀ b : List Int, (escV b).length ≤ 2 * b.length
  | [] => by simp [escV]
  | c :: t => by
    have := escV_len t
    rw [escV_cons]
    split <;> simp <;> omega
theorem s4_writeInBrackets_loop {r cap : Nat} (hd : r + 2 ≤ e ∨ e + 3 ≤ r) (n : Nat) : ∀ (i : Nat) (h : jH) (l : List Int), i + n = x.2.2.1.length → l.length + 2 * n ≤ cap → isEl h e x → isRow h r cap l → (∀ h', jFI r (r + 2) h h' → isRow h' r cap (l ++ escV (x.2.2.1.drop i)) → Q (.inl none) h') → jWp (d + 1) mX4_writeInBrackets 19 [(0, jR e), (1, jR r), (2, jI i)] [] h Q := by
  induction n with
  | zero =>
    intro i h l hn hc H R k
    refine bX4_writeInBrackets_19 (fun _ _ => ⟨H.1, ?_⟩)
    rw [H.2.1]
    refine ⟨H.2.2.1.1, s7_count H.2.2.1 ⟨_, rfl, fun _ => ?_, fun z => by omega⟩⟩
    rw [List.drop_eq_nil_of_le (by omega)] at k
    exact k h .rfl (by simpa [escV] using R)
  | succ n ih =>
    intro i h l hn hc H R k
    have cc := H.2.2.1.2.2.2.2.2.1
    have hv : lAt x.2.2.1 i = x.2.2.1.getD i 0 := by
      unfold lAt
      rw [if_pos (by omega), Int.toNat_natCast]
    rw [drop_getD (by omega), escV_cons] at k
    refine bX4_writeInBrackets_19 (fun _ _ => ⟨H.1, ?_⟩)
    rw [H.2.1]
    refine ⟨H.2.2.1.1, s7_count H.2.2.1 ⟨_, rfl, fun z => by omega, fun z => ⟨H.1, ?_⟩⟩⟩
    rw [H.2.1]
    refine ⟨H.2.2.1.1, s7_at H.2.2.1 ⟨_, rfl, fun y => ⟨H.1, ?_⟩, fun y => ⟨R.1, s7_put R (fun h1 f1 R1 => ?_)⟩⟩⟩
    · rw [H.2.1]
      refine ⟨H.2.2.1.1, s7_at H.2.2.1 ⟨_, rfl, R.1, s7_put R (fun h1 f1 R1 => ⟨rfl, ⟨by omega, by omega⟩, ?_⟩)⟩⟩
      rw [hv] at y R1
      rw [if_neg y] at k
      rw [lput_app (by omega)] at R1
      exact ih (i + 1) h1 _ (by omega) (by simp; omega) (f1.el H (by omega)) R1 (fun h2 f2 R2 => k h2 (f1.trans f2) (by simpa using R2))
    · rw [hv] at y
      rw [if_pos y] at k
      rw [lput_app (by omega)] at R1
      have H1 := f1.el H (by omega)
      refine ⟨rfl, H1.1, ?_⟩
      rw [H1.2.1]
      refine ⟨H1.2.2.1.1, s7_at H1.2.2.1 ⟨_, rfl, R1.1, s7_put R1 (fun h2 f2 R2 => ⟨rfl, ⟨by omega, by omega⟩, ?_⟩)⟩⟩
      rw [lput_app (by simp; omega), hv] at R2
      exact ih (i + 1) h2 _ (by omega) (by simp; omega) (f2.el H1 (by omega)) R2 (fun h3 f3 R3 => k h3 ((f1.trans f2).trans f3) (by simpa using R3))
/-- an element in brackets -/
def brStr (x : jE) : List Int := [40] ++ aiStr x.1 x.2.1 ++ [41] ++ escV x.2.2.1
theorem s4_writeInBrackets {r cap : Nat} {l : List Int} (hd : r + 2 ≤ e ∨ e + 3 ≤ r) (hc : l.length + 2 + x.2.1 + 2 * x.2.2.1.length ≤ cap) (H : isEl h e x) (R : isRow h r cap l) (k : ∀ h', jFI r (r + 2) h h' → isRow h' r cap (l ++ brStr x) → Q (.inl none) h') : jCall (d + 2) mX4_writeInBrackets [jR e, jR r] h Q := by
  have d1 := H.2.2.2.2.2.2.2.2.2.2
  refine bX4_writeInBrackets (fun _ => ⟨R.1, s7_put R (fun h1 f1 R1 => ⟨rfl, ?_⟩)⟩)
  rw [lput_app (by omega)] at R1
  have H1 := f1.el H (by omega)
  refine ⟨H1.1, s4_writeAi hd (by simp; omega) H1 R1 (fun h2 f2 R2 => ⟨rfl, ?_⟩)⟩
  have H2 := f2.el H1 (by omega)
  have al : (aiStr x.1 x.2.1).length = x.2.1.toNat := aiF_len _ _ _
  refine ⟨R2.1, s7_put R2 (fun h3 f3 R3 => ⟨rfl, ?_⟩)⟩
  rw [lput_app (by simp; omega)] at R3
  refine s4_writeInBrackets_loop hd x.2.2.1.length 0 h3 _ (by omega) (by simp; omega) (f3.el H2 (by omega)) R3 (fun h4 f4 R4 => k h4 (((f1.trans f2).trans f3).trans f4) ?_)
  simpa [brStr] using R4
end E5
