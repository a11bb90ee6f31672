/-! THE MARKS -/
section S8
variable {d : Nat} {h : jH} {Q : jO → jH → Prop}
def mkB (b : Int) : Bool := jMKI.any (fun c => decide (c = b))
theorem jMKI_byte : ∀ n : Nat, n < 20 → (jMKI.getD n 0) < 128 ∧ 0 ≤ jMKI.getD n 0 := by decide
/-- the place of a byte among the marks' bytes from n on -/
theorem sJ_indexOfChar_loop {b c : Int} (hb : (b + 128) % 256 - 128 = c) (n : Nat) : ∀ i : Nat, 20 - i = n → i ≤ 20 → (∀ v : Int, ((jMKI.drop i).any (fun x => decide (x = c)) = true ↔ 0 ≤ v) → Q (.inl (some (jI v))) h) → jWp d mJ1_indexOfChar_4cfef 7 [(0, jR 6), (3, jI 20), (4, jI c), (5, jI i)] [] h Q := by
  induction n with
  | zero =>
    intro i hn hi k
    refine bJ1_indexOfChar_4cfef_7 (fun _ _ _ _ => ⟨fun _ => k _ ?_, fun h1 => by omega⟩)
    rw [List.drop_eq_nil_of_le (by show 20 ≤ i; omega)]
    simp
  | succ n ih =>
    intro i hn hi k
    have hl : i < jMKI.length := by show i < 20; omega
    refine bJ1_indexOfChar_4cfef_7 (fun _ _ _ _ => ⟨fun _ => by omega, fun h1 => ⟨by omega, by omega, fun h2 => ⟨⟨by omega, by omega⟩, ?_⟩, fun h2 => k _ ?_⟩⟩)
    · rw [Int.toNat_natCast] at h2
      refine ih (i + 1) (by omega) (by omega) (fun v hv => k v ?_)
      rw [drop_getD hl, List.any_cons, decide_eq_false h2, Bool.false_or]
      exact hv
    · rw [Int.toNat_natCast] at h2
      rw [drop_getD hl, List.any_cons, decide_eq_true h2, Bool.true_or]
      exact ⟨fun _ => by omega, fun _ => rfl⟩
theorem jMKI_rg : ∀ x ∈ jMKI, 0 ≤ x ∧ x < 128 := by decide
theorem mkB_rg {b : Int} (h : mkB b = true) : 0 ≤ b ∧ b < 128 := by
  obtain ⟨x, hx, e⟩ := List.any_eq_true.mp h
  have := of_decide_eq_true e
  have := jMKI_rg x hx
  omega
theorem sJ_indexOf {b : Int} (hb : 0 ≤ b) (k : ∀ v : Int, (mkB b = true ↔ 0 ≤ v) → Q (.inl (some (jI v))) h) : jCall (d + 4) mJ0_indexOf_0f7a4 [jR 5, jI b] h Q := by
  refine bJ0_indexOf_0f7a4 (fun _ _ => bJ0_indexOf_7cf53 (fun _ _ _ => bJ0_isLatin1_aae02 (fun _ => ⟨_, rfl, fun z => by omega, fun _ => bJ0_length_8abf5 (fun _ => bJ0_coder_7d493 (fun _ => ⟨_, rfl, by omega, by omega, ⟨_, rfl, bJ1_indexOf_4cfef (fun _ _ _ _ => bJ1_canEncode_9a6ad (fun _ _ => ⟨fun z => by omega, fun _ => ⟨fun z => ⟨_, rfl, fun z => absurd z (by decide), fun _ => ⟨_, rfl, ⟨_, rfl, k _ ?_⟩⟩⟩, fun z => ⟨_, rfl, fun _ => s9_max ⟨_, rfl, s9_min ⟨_, rfl, fun z2 => bJ1_indexOfChar_4cfef (fun _ _ _ _ => ?_), fun z2 => absurd z2 (by decide)⟩⟩, fun z => absurd z (by decide)⟩⟩⟩))⟩⟩))⟩)))
  · exact ⟨fun q => by have := mkB_rg q; omega, fun q => by omega⟩
  · have e1 : min ((20 : Int) / 2 ^ (0 : Int).toNat) 20 = 20 := by decide
    have e2 : max (0 : Int) 0 = ((0 : Nat) : Int) := by decide
    rw [e1, e2]
    refine sJ_indexOfChar_loop rfl 20 0 (by omega) (by omega) (fun v hv => ⟨_, rfl, ⟨_, rfl, ⟨_, rfl, k v ?_⟩⟩⟩)
    rw [← hv, List.drop_zero]
    unfold mkB
    rw [List.any_eq_true, List.any_eq_true]
    refine ⟨fun ⟨x, hx, e⟩ => ⟨x, hx, ?_⟩, fun ⟨x, hx, e⟩ => ⟨x, hx, ?_⟩⟩
    · have := of_decide_eq_true e
      have := jMKI_rg x hx
      exact decide_eq_true (by omega)
    · have := of_decide_eq_true e
      have := jMKI_rg x hx
      exact decide_eq_true (by omega)
end S8
/-! THE TABLE -/
section S9
variable {d : Nat} {h : jH} {Q : jO → jH → Prop}
def letB (b : Int) : Bool := decide (65 ≤ b ∧ b ≤ 90) || decide (97 ≤ b ∧ b ≤ 122) || mkB b
theorem s8_isLetterOrMark {b : Int} (hb : b < 65536) (k : Q (.inl (some (jI (b2i (letB b))))) h) : jCall (d + 5) mX8_isLetterOrMark [jI b] h Q := by
  have k' : ∀ v : Int, (v = 0 ∨ v = 1) → (letB b = true ↔ v ≠ 0) → Q (.inl (some (jI v))) h := by
    intro v h1 h2
    rcases h1 with rfl | rfl
    · rw [show letB b = false by cases hh : letB b <;> simp_all] at k
      exact k
    · rw [show letB b = true from h2.mpr (by decide)] at k
      exact k
  have key : ¬ (65 ≤ b ∧ b ≤ 90) → ¬ (97 ≤ b ∧ b ≤ 122) → letB b = mkB b := fun a1 a2 => by
    unfold letB
    rw [decide_eq_false a1, decide_eq_false a2, Bool.false_or, Bool.false_or]
  have yes : (65 ≤ b ∧ b ≤ 90) ∨ (97 ≤ b ∧ b ≤ 122) → letB b = true := fun a1 => by
    unfold letB
    rcases a1 with a1 | a1
    · rw [decide_eq_true a1]; rfl
    · rw [decide_eq_true a1, Bool.or_true]; rfl
  have last : ¬ (65 ≤ b ∧ b ≤ 90) → ¬ (97 ≤ b ∧ b ≤ 122) → 0 ≤ b → jCall (d + 4) mJ0_indexOf_0f7a4 [jR 5, jI b] h (fun o h32 => ∃ v32, o = .inl (some (jI v32)) ∧ ((v32 < 0 → Q (.inl (some (jI 0))) h32) ∧ (¬ (v32 < 0) → Q (.inl (some (jI 1))) h32))) := fun a1 a2 a3 =>
    sJ_indexOf a3 (fun v hv => ⟨v, rfl, fun z => k' 0 (by omega) (by rw [key a1 a2, hv]; omega), fun z => k' 1 (by omega) (by rw [key a1 a2, hv]; omega)⟩)
  have neg : ¬ (65 ≤ b ∧ b ≤ 90) → ¬ (97 ≤ b ∧ b ≤ 122) → b < 0 → Q (.inl (some (jI 0))) h := fun a1 a2 a3 => k' 0 (by omega) ⟨fun q => by rw [key a1 a2] at q; have := mkB_rg q; omega, fun q => absurd rfl q⟩
  refine bX8_isLetterOrMark (fun _ _ => ⟨fun h1 => ⟨fun h2 => ⟨fun h3 => neg (by omega) (by omega) h3, fun h3 => ⟨by omega, by omega, last (by omega) (by omega) (by omega)⟩⟩, fun h2 => by omega⟩, fun h1 => ⟨fun h2 => k' 1 (by omega) ⟨fun _ => by decide, fun _ => yes (by omega)⟩, fun h2 => ⟨fun h3 => ⟨fun h4 => by omega, fun h4 => ⟨by omega, by omega, last (by omega) (by omega) (by omega)⟩⟩, fun h3 => ⟨fun h4 => k' 1 (by omega) ⟨fun _ => by decide, fun _ => yes (by omega)⟩, fun h4 => ⟨fun h5 => by omega, fun h5 => ⟨by omega, by omega, last (by omega) (by omega) (by omega)⟩⟩⟩⟩⟩⟩)
def fitB (b s : Int) : Bool := isD b || (decide (s = 2) && letB b)
theorem s8_fits {b s : Int} (hb : b < 65536) (k : Q (.inl (some (jI (b2i (fitB b s))))) h) : jCall (d + 6) mX8_fits [jI b, jI s] h Q := by
  have nd : ¬ (48 ≤ b ∧ b ≤ 57) → s ≠ 2 → Q (.inl (some (jI 0))) h := fun a1 a2 => by
    unfold fitB isD at k
    rw [decide_eq_false a1, decide_eq_false a2] at k
    exact k
  have nl : ¬ (48 ≤ b ∧ b ≤ 57) → s = 2 → jCall (d + 5) mX8_isLetterOrMark [jI b] h (fun o h18 => ∃ v18, o = .inl (some (jI v18)) ∧ ((v18 = 0 → Q (.inl (some (jI 0))) h18) ∧ (¬ (v18 = 0) → Q (.inl (some (jI 1))) h18))) := fun a1 a2 => by
    unfold fitB isD at k
    rw [decide_eq_false a1, decide_eq_true a2, Bool.false_or, Bool.true_and] at k
    refine s8_isLetterOrMark hb ⟨_, rfl, fun z => ?_, fun z => ?_⟩
    · rw [(b2i_eq _).mp z] at k; exact k
    · rw [(b2i_ne _).mp z] at k; exact k
  refine bX8_fits (fun _ _ _ => ⟨fun h1 => ⟨fun h2 => nd (by omega) h2, fun h2 => nl (by omega) h2⟩, fun h1 => ⟨fun h2 => ?_, fun h2 => ⟨fun h3 => nd (by omega) h3, fun h3 => nl (by omega) h3⟩⟩⟩)
  unfold fitB isD at k
  rw [decide_eq_true ⟨by omega, h2⟩] at k
  exact k
def LN (i : Int) : Int := (jS 2).getD i.toNat 0
def WN (i : Int) : Int := (jS 3).getD i.toNat 0
def cellV (ln c : Int) : Int := if ln < 0 ∨ 520 ≤ ln * 8 + c then 0 else LN (ln * 8 + c)
theorem s8_cell {ln c : Int} (h1 : -1 ≤ ln) (h2 : ln < 1000) (h3 : 0 ≤ c) (h4 : c < 8) (k : Q (.inl (some (jI (cellV ln c)))) h) : jCall d mX8_cell [jI ln, jI c] h Q := by
  have no : (ln < 0 ∨ 520 ≤ ln * 8 + c) → Q (.inl (some (jI 0))) h := fun z => by
    unfold cellV at k
    rw [if_pos z] at k
    exact k
  refine bX8_cell (fun _ _ _ => ⟨⟨by omega, by omega⟩, ⟨by omega, by omega⟩, fun z => no (by omega), fun z => ⟨fun z2 => by omega, fun z2 => ⟨fun z3 => ⟨by omega, by omega, fun _ => ?_⟩, fun z3 => no (by omega)⟩⟩⟩)
  unfold cellV at k
  rw [if_neg (by omega)] at k
  exact k
def wanV (w c : Int) : Int := if w < 0 ∨ 91 ≤ w * 7 + c then -1 else WN (w * 7 + c)
theorem s8_wantCell {w c : Int} (h1 : -1 ≤ w) (h2 : w < 1000) (h3 : 0 ≤ c) (h4 : c < 8) (k : Q (.inl (some (jI (wanV w c)))) h) : jCall d mX8_wantCell [jI w, jI c] h Q := by
  have no : (w < 0 ∨ 91 ≤ w * 7 + c) → Q (.inl (some (jI (-1)))) h := fun z => by
    unfold wanV at k
    rw [if_pos z] at k
    exact k
  refine bX8_wantCell (fun _ _ _ => ⟨⟨by omega, by omega⟩, ⟨by omega, by omega⟩, fun z => no (by omega), fun z => ⟨fun z2 => by omega, fun z2 => ⟨fun z3 => ⟨by omega, by omega, fun _ => ?_⟩, fun z3 => no (by omega)⟩⟩⟩)
  unfold wanV at k
  rw [if_neg (by omega)] at k
  exact k
def hasPt (ln : Int) : Bool := decide (cellV ln 3 ≠ -1)
theorem s8_hasPoint {ln : Int} (h1 : -1 ≤ ln) (h2 : ln < 1000) (k : Q (.inl (some (jI (b2i (hasPt ln))))) h) : jCall (d + 1) mX8_hasPoint [jI ln] h Q := by
  unfold hasPt at k
  refine bX8_hasPoint (fun _ _ => s8_cell h1 h2 (by decide) (by decide) ⟨_, rfl, fun z => ?_, fun z => ?_⟩)
  · rw [decide_eq_false (by omega)] at k; exact k
  · rw [decide_eq_true (by omega)] at k; exact k
def partV (ln j : Int) : Int := if 0 ≤ j ∧ j < 4 then cellV ln (4 + j) else 0
theorem s8_partAt {ln j : Int} (h1 : -1 ≤ ln) (h2 : ln < 1000) (k : Q (.inl (some (jI (partV ln j)))) h) : jCall (d + 1) mX8_partAt [jI ln, jI j] h Q := by
  unfold partV at k
  refine bX8_partAt (fun _ _ _ => ⟨fun z => ?_, fun z => ⟨fun z2 => ⟨⟨by omega, by omega⟩, s8_cell h1 h2 (by omega) (by omega) ⟨_, rfl, ?_⟩⟩, fun z2 => ?_⟩⟩)
  · rw [if_neg (by omega)] at k; exact k
  · rw [if_pos (by omega)] at k; exact k
  · rw [if_neg (by omega)] at k; exact k
theorem s8_sort {p : Int} (hp : 0 ≤ p) (k : Q (.inl (some (jI (p / 1000)))) h) : jCall d mX8_sort [jI p] h Q := bX8_sort (fun _ _ => ⟨hp, k⟩)
theorem s8_mostBytes {p : Int} (hp : 0 ≤ p) (k : Q (.inl (some (jI (p / 10 % 100)))) h) : jCall d mX8_mostBytes [jI p] h Q := bX8_mostBytes (fun _ _ => ⟨hp, by omega, k⟩)
theorem s8_mayBeShorter {p : Int} (k : Q (.inl (some (jI (p % 2)))) h) : jCall d mX8_mayBeShorter [jI p] h Q :=
  bX8_mayBeShorter (fun _ _ => ⟨fun z => by rw [z] at k; exact k, fun z => by rw [show p % 2 = 1 by omega] at k; exact k⟩)
theorem s8_mayBeLeftOut {p : Int} (hp : 0 ≤ p) (k : Q (.inl (some (jI (b2i (decide (2 ≤ p % 10)))))) h) : jCall d mX8_mayBeLeftOut [jI p] h Q :=
  bX8_mayBeLeftOut (fun _ _ => ⟨hp, fun z => by rw [decide_eq_false (by omega)] at k; exact k, fun z => by rw [decide_eq_true (by omega)] at k; exact k⟩)
def fixN (b : Int) : Bool := decide (b ≤ 2 ∨ (11 ≤ b ∧ b ≤ 17) ∨ b = 20 ∨ (31 ≤ b ∧ b ≤ 36) ∨ b = 41)
def fixV (a dg : Int) : Bool := fixN (if dg = 4 then a / 100 else if dg = 3 then a / 10 else a)
theorem s8_isFixed {a dg : Int} (ha : 0 ≤ a) (k : Q (.inl (some (jI (b2i (fixV a dg))))) h) : jCall d mX8_isFixed [jI a, jI dg] h Q := by
  have yes : ∀ b, b = (if dg = 4 then a / 100 else if dg = 3 then a / 10 else a) → (b ≤ 2 ∨ (11 ≤ b ∧ b ≤ 17) ∨ b = 20 ∨ (31 ≤ b ∧ b ≤ 36) ∨ b = 41) → jWp d mX8_isFixed 67 [] [] h Q := fun b e z => by
    unfold fixV fixN at k
    rw [← e, decide_eq_true z] at k
    exact bX8_isFixed_67 (fun _ => bX8_isFixed_72 (fun _ => ⟨by decide, k⟩))
  have no : ∀ b, b = (if dg = 4 then a / 100 else if dg = 3 then a / 10 else a) → ¬ (b ≤ 2 ∨ (11 ≤ b ∧ b ≤ 17) ∨ b = 20 ∨ (31 ≤ b ∧ b ≤ 36) ∨ b = 41) → jWp d mX8_isFixed 72 [] [jI 0] h Q := fun b e z => by
    unfold fixV fixN at k
    rw [← e, decide_eq_false z] at k
    exact bX8_isFixed_72 (fun _ => ⟨by decide, k⟩)
  have a61 : ∀ b, b = (if dg = 4 then a / 100 else if dg = 3 then a / 10 else a) → ¬ (b ≤ 2 ∨ (11 ≤ b ∧ b ≤ 17) ∨ b = 20 ∨ (31 ≤ b ∧ b ≤ 36)) → jWp d mX8_isFixed 61 [(2, jI b)] [] h Q := fun b e z => bX8_isFixed_61 (fun _ _ => ⟨fun z2 => no b e (by omega), fun z2 => yes b e (by omega)⟩)
  have a43 : ∀ b, b = (if dg = 4 then a / 100 else if dg = 3 then a / 10 else a) → ¬ (b ≤ 2 ∨ (11 ≤ b ∧ b ≤ 17)) → jWp d mX8_isFixed 43 [(2, jI b)] [] h Q := fun b e z => bX8_isFixed_43 (fun _ _ => ⟨fun z2 => yes b e (by omega), fun z2 => ⟨fun z3 => a61 b e (by omega), fun z3 => ⟨fun z4 => yes b e (by omega), fun z4 => a61 b e (by omega)⟩⟩⟩)
  have e3 : dg ≠ 4 → dg ≠ 3 → a = (if dg = 4 then a / 100 else if dg = 3 then a / 10 else a) := fun q1 q2 => by rw [if_neg q1, if_neg q2]
  have e2 : dg ≠ 4 → dg = 3 → a / 10 = (if dg = 4 then a / 100 else if dg = 3 then a / 10 else a) := fun q1 q2 => by rw [if_neg q1, if_pos q2]
  have e1 : dg = 4 → a / 100 = (if dg = 4 then a / 100 else if dg = 3 then a / 10 else a) := fun q1 => by rw [if_pos q1]
  exact bX8_isFixed (fun _ _ _ => ⟨fun z => ⟨fun y => ⟨fun q => yes _ (e3 z y) (by omega), fun q => ⟨fun q2 => a43 _ (e3 z y) (by omega), fun q2 => ⟨fun q3 => yes _ (e3 z y) (by omega), fun q3 => a43 _ (e3 z y) (by omega)⟩⟩⟩, fun y => ⟨ha, fun q => yes _ (e2 z y) (by omega), fun q => ⟨fun q2 => a43 _ (e2 z y) (by omega), fun q2 => ⟨fun q3 => yes _ (e2 z y) (by omega), fun q3 => a43 _ (e2 z y) (by omega)⟩⟩⟩⟩, fun z => ⟨ha, fun q => yes _ (e1 z) (by omega), fun q => ⟨fun q2 => a43 _ (e1 z) (by omega), fun q2 => ⟨fun q3 => yes _ (e1 z) (by omega), fun q3 => a43 _ (e1 z) (by omega)⟩⟩⟩⟩)
/-- the table's line at i has that AI -/
def lnOk (i a dg : Int) : Bool := decide (LN i ≤ (if LN (i + 3) = -1 then a else a / 10)) && (decide ((if LN (i + 3) = -1 then a else a / 10) ≤ LN (i + 1)) && (decide ((if LN (i + 3) = -1 then dg else dg - 1) = LN (i + 2)) && decide (LN (i + 3) = -1 ∨ a % 10 ≤ LN (i + 3))))
def lineF (a dg : Int) : Nat → Nat → Int
  | 0, _ => -1
  | n + 1, i => if lnOk (8 * i) a dg = true then i else lineF a dg n (i + 1)
/-- the line of an AI -/
def lineV (a dg : Int) : Int := lineF a dg 65 0
theorem lineF_rg (a dg : Int) : ∀ n i : Nat, -1 ≤ lineF a dg n i ∧ lineF a dg n i < i + n
  | 0, i => by simp [lineF]; omega
  | n + 1, i => by
    have := lineF_rg a dg n (i + 1)
    unfold lineF
    split <;> omega
theorem lineV_rg (a dg : Int) : -1 ≤ lineV a dg ∧ lineV a dg < 65 := by
  have := lineF_rg a dg 65 0
  unfold lineV
  omega
theorem s8_lineOf_loop {a dg : Int} (ha : 0 ≤ a) (h1 : -1000 ≤ dg) (h2 : dg < 1000) (n : Nat) : ∀ i : Nat, 65 - i = n → i ≤ 65 → Q (.inl (some (jI (lineF a dg n i)))) h → jWp d mX8_lineOf 2 [(0, jI a), (1, jI dg), (2, jI (8 * i))] [] h Q := by
  induction n with
  | zero =>
    intro i hn hi k
    exact bX8_lineOf_2 (fun _ _ _ _ => ⟨⟨by omega, by omega⟩, fun _ => k, fun z => by omega⟩)
  | succ n ih =>
    intro i hn hi k
    have yes : lnOk (8 * i) a dg = true → Q (.inl (some (jI ((8 * i : Int) / 8)))) h := fun z => by
      unfold lineF at k
      rw [if_pos z] at k
      rw [show (8 * i : Int) / 8 = i by omega]
      exact k
    have no : lnOk (8 * i) a dg = false → jWp d mX8_lineOf 114 [(0, jI a), (1, jI dg), (2, jI (8 * i))] [] h Q := fun z => by
      unfold lineF at k
      rw [if_neg (by rw [z]; decide)] at k
      refine bX8_lineOf_114 (fun _ _ _ _ => ⟨⟨by omega, by omega⟩, ?_⟩)
      have := ih (i + 1) (by omega) (by omega) k
      rw [show (8 * ((i + 1 : Nat) : Int)) = 8 * i + 8 by omega] at this
      exact this
    have a68 : ∀ s : Int, (s ≠ 0 ↔ (LN (8 * i + 3) = -1 ∨ a % 10 ≤ LN (8 * i + 3))) → jWp d mX8_lineOf 68 [(0, jI a), (1, jI dg), (2, jI (8 * i)), (4, jI (if LN (8 * i + 3) = -1 then a else a / 10)), (5, jI (if LN (8 * i + 3) = -1 then dg else dg - 1))] [jI s] h Q := fun s hs => by
      have e0 : (jS 2).getD (8 * i : Int).toNat 0 = LN (8 * i) := rfl
      have e1 : (jS 2).getD (8 * i + 1 : Int).toNat 0 = LN (8 * i + 1) := rfl
      have e2 : (jS 2).getD (8 * i + 2 : Int).toNat 0 = LN (8 * i + 2) := rfl
      unfold lnOk at no yes
      refine bX8_lineOf_68 (fun _ _ _ _ _ _ => ?_)
      rw [e0, e1, e2]
      refine ⟨by omega, by omega, fun _ => ⟨fun z => no ?_, fun z => ⟨⟨by omega, by omega⟩, by omega, by omega, fun _ => ⟨fun z2 => no ?_, fun z2 => ⟨⟨by omega, by omega⟩, by omega, by omega, fun _ => ⟨fun z3 => no ?_, fun z3 => ⟨fun z4 => no ?_, fun z4 => yes ?_⟩⟩⟩⟩⟩⟩⟩
      · rw [decide_eq_false (by omega)]; rfl
      · rw [decide_eq_false (p := _ ≤ LN (8 * i + 1)) (by omega), Bool.false_and, Bool.and_false]
      · rw [decide_eq_false (p := _ = LN (8 * i + 2)) z3, Bool.false_and, Bool.and_false, Bool.and_false]
      · rw [decide_eq_false (p := LN (8 * i + 3) = -1 ∨ a % 10 ≤ LN (8 * i + 3)) (by rw [← hs]; omega), Bool.and_false, Bool.and_false, Bool.and_false]
      · rw [decide_eq_true (by omega), decide_eq_true (by omega), decide_eq_true z3, decide_eq_true (hs.mp z4)]; rfl
    have e3 : (jS 2).getD (8 * i + 3 : Int).toNat 0 = LN (8 * i + 3) := rfl
    refine bX8_lineOf_2 (fun _ _ _ _ => ?_)
    rw [e3]
    by_cases hp : LN (8 * i + 3) = -1
    · have a63 := a68 1 ⟨fun _ => Or.inl hp, fun _ => by decide⟩
      rw [if_pos hp, if_pos hp] at a63
      refine ⟨⟨by omega, by omega⟩, fun z => by omega, fun z => ⟨⟨by omega, by omega⟩, by omega, by omega, fun _ => ⟨fun y => absurd hp y, fun _ => ⟨fun y => absurd hp y, fun _ => ⟨fun _ => bX8_lineOf_63 (fun _ _ _ _ _ _ => a63), fun y => absurd hp y⟩⟩⟩⟩⟩
    · have a63 := a68 1
      have a60 := a68 0
      rw [if_neg hp, if_neg hp] at a63 a60
      refine ⟨⟨by omega, by omega⟩, fun z => by omega, fun z => ⟨⟨by omega, by omega⟩, by omega, by omega, fun _ => ⟨fun _ => ⟨ha, fun _ => ⟨⟨by omega, by omega⟩, fun y => absurd y hp, fun _ => ⟨fun w => a60 ?_, fun w => bX8_lineOf_63 (fun _ _ _ _ _ _ => a63 ?_)⟩⟩, fun y => absurd y hp⟩, fun y => absurd y hp⟩⟩⟩
      · exact ⟨fun y => absurd rfl y, fun y => by omega⟩
      · exact ⟨fun _ => Or.inr (by omega), fun _ => by decide⟩
theorem s8_lineOf {a dg : Int} (ha : 0 ≤ a) (h1 : -1000 ≤ dg) (h2 : dg < 1000) (k : Q (.inl (some (jI (lineV a dg)))) h) : jCall d mX8_lineOf [jI a, jI dg] h Q :=
  bX8_lineOf (fun _ _ _ => s8_lineOf_loop ha h1 h2 65 0 (by omega) (by omega) k)
theorem s8_wants (k : Q (.inl (some (jI 13))) h) : jCall d mX8_wants [] h Q := bX8_wants (fun _ => ⟨by decide, k⟩)
def wantOf (w f : Int) : Bool := decide (wanV w 0 ≤ f ∧ f ≤ wanV w 1)
theorem s8_isWantOf {w f : Int} (h1 : -1 ≤ w) (h2 : w < 1000) (k : Q (.inl (some (jI (b2i (wantOf w f))))) h) : jCall (d + 1) mX8_isWantOf [jI w, jI f] h Q := by
  unfold wantOf at k
  refine bX8_isWantOf (fun _ _ _ => s8_wantCell h1 h2 (by decide) (by decide) ⟨_, rfl, fun z => ?_, fun z => s8_wantCell h1 h2 (by decide) (by decide) ⟨_, rfl, fun z2 => ?_, fun z2 => ?_⟩⟩)
  · rw [decide_eq_false (by omega)] at k; exact k
  · rw [decide_eq_false (by omega)] at k; exact k
  · rw [decide_eq_true (by omega)] at k; exact k
theorem s8_wantsOne {w : Int} (h1 : -1 ≤ w) (h2 : w < 1000) (k : Q (.inl (some (jI (b2i (decide (wanV w 2 = 1)))))) h) : jCall (d + 1) mX8_wantsOne [jI w] h Q := by
  refine bX8_wantsOne (fun _ _ => s8_wantCell h1 h2 (by decide) (by decide) ⟨_, rfl, fun z => ?_, fun z => ?_⟩)
  · rw [decide_eq_false z] at k; exact k
  · rw [decide_eq_true z] at k; exact k
def wantedV (w j : Int) : Int := if 0 ≤ j ∧ j < 4 then wanV w (3 + j) else -1
theorem s8_wanted {w j : Int} (h1 : -1 ≤ w) (h2 : w < 1000) (k : Q (.inl (some (jI (wantedV w j)))) h) : jCall (d + 1) mX8_wanted [jI w, jI j] h Q := by
  unfold wantedV at k
  refine bX8_wanted (fun _ _ _ => ⟨fun z => ?_, fun z => ⟨fun z2 => ⟨⟨by omega, by omega⟩, s8_wantCell h1 h2 (by omega) (by omega) ⟨_, rfl, ?_⟩⟩, fun z2 => ?_⟩⟩)
  · rw [if_neg (by omega)] at k; exact k
  · rw [if_pos (by omega)] at k; exact k
  · rw [if_neg (by omega)] at k; exact k
end S9
