/-! BARS -/
/-- the bits of a row's widths: n digits left, the unit, bars or spaces, the bits so far -/
def repB2 : Nat → Int → Int → Int
  | 0, _, a => a
  | n + 1, b, a => repB2 n b (a * 2 + b)
def patF (w : Int) : Nat → Nat → Int → Int → Int
  | 0, _, _, a => a
  | n + 1, i, u, a => patF w n (i + 1) (max (u / 10) 1) (repB2 (w / u % 10).toNat (if i % 2 = 0 then 1 else 0) a)
def patV (w : Int) (n : Nat) : Int := patF w n 0 (10 ^ (n - 1)) 0
def patL : List Int := jWID.map (fun w => patV w 6)
def patS : Int := patV 2331112 7
def isBars (h : jH) (B : Nat) : Prop := hK h B = 2 ∧ hR h 100 B = B + 1 ∧ hK h (B + 1) = 10 ∧ hN h (B + 1) = 106 ∧ (∀ i : Nat, i < 106 → hA h (B + 1) (i : Int) = patL.getD i 0) ∧ hI h 101 B = patS
theorem jFr.bars {a b : Nat} {h h1 : jH} (p : jFr a b h h1) {B : Nat} (q : isBars h B) (hd : B + 2 ≤ a ∨ b ≤ B) : isBars h1 B := by
  obtain ⟨p3, p4, p5, p6, p7⟩ := p
  obtain ⟨q1, q2, q3, q4, q5, q6⟩ := q
  exact ⟨by rw [p3]; exact q1, by rw [((p7 B (by omega)).1 100).2]; exact q2, by rw [p3]; exact q3, by rw [p4]; exact q4, fun i hi => by rw [((p7 (B + 1) (by omega)).2 i).1]; exact q5 i hi, by rw [((p7 B (by omega)).1 101).1]; exact q6⟩
def idxI (p : Int) : List Int → Nat → Int
  | [], _ => -1
  | x :: t, i => if x = p then i else idxI p t (i + 1)
def bitsF (p : Int) : Nat → List Int
  | 0 => []
  | n + 1 => (p / 2 ^ n % 2) :: bitsF p n
theorem bitsF_len (p : Int) : ∀ n, (bitsF p n).length = n
  | 0 => rfl
  | n + 1 => by simp [bitsF, bitsF_len p n]
def barV (c : Int) : List Int := if 0 ≤ c ∧ c < 106 then bitsF (patL.getD c.toNat 0) 11 else bitsF patS 13
theorem patL_len : patL.length = 106 := by
  unfold patL
  rw [List.length_map]
  exact jS_l1
section B1
variable {d : Nat} {h : jH} {Q : jO → jH → Prop} {B : Nat}
theorem s1_isStop {p : Int} (H : isBars h B) (k : Q (.inl (some (jI (b2i (decide (p = patS)))))) h) : jCall d mX1_isStop [jR B, jI p] h Q := by
  refine bX1_isStop (fun _ _ => ⟨H.1, fun _ => ?_⟩)
  rw [H.2.2.2.2.2]
  refine ⟨fun z => ?_, fun z => ?_⟩
  · rw [decide_eq_false z] at k; exact k
  · rw [decide_eq_true z] at k; exact k
theorem s1_characterOf_loop {p : Int} (H : isBars h B) (n : Nat) : ∀ i : Nat, i + n = 106 → Q (.inl (some (jI (idxI p (patL.drop i) i)))) h → jWp d mX1_characterOf 2 [(0, jR B), (1, jI p), (2, jI i)] [] h Q := by
  have pl := patL_len
  induction n with
  | zero =>
    intro i hn k
    refine bX1_characterOf_2 (fun _ _ _ => ⟨H.1, ?_⟩)
    rw [H.2.1, H.2.2.2.1]
    refine ⟨H.2.2.1, fun _ => ⟨fun _ => ?_, fun z => by omega⟩⟩
    rw [List.drop_eq_nil_of_le (by omega)] at k
    exact k
  | succ n ih =>
    intro i hn k
    refine bX1_characterOf_2 (fun _ _ _ => ⟨H.1, ?_⟩)
    rw [H.2.1, H.2.2.2.1, H.2.2.2.2.1 i (by omega)]
    rw [drop_getD (by omega)] at k
    unfold idxI at k
    refine ⟨H.2.2.1, fun _ => ⟨fun z => by omega, fun z => ⟨by omega, by omega, fun _ => ⟨fun z2 => ⟨⟨by omega, by omega⟩, ?_⟩, fun z2 => ?_⟩⟩⟩⟩
    · rw [if_neg z2] at k
      exact ih (i + 1) (by omega) k
    · rw [if_pos z2] at k
      exact k
theorem s1_characterOf {p : Int} (H : isBars h B) (k : Q (.inl (some (jI (idxI p patL 0)))) h) : jCall d mX1_characterOf [jR B, jI p] h Q :=
  bX1_characterOf (fun _ _ => s1_characterOf_loop H 106 0 (by omega) k)
theorem s1_put_loop {r cap : Nat} {p : Int} (n : Nat) : ∀ (h : jH) (l : List Int), n ≤ 32 → l.length + n ≤ cap → isRow h r cap l → (∀ h', jFI r (r + 2) h h' → isRow h' r cap (l ++ bitsF p n) → Q (.inl none) h') → jWp (d + 1) mX1_put 57 [(1, jR r), (4, jI p), (6, jI ((n : Int) - 1))] [] h Q := by
  induction n with
  | zero =>
    intro h l hn hc R k
    exact bX1_put_57 (fun _ _ _ => ⟨fun _ => k h .rfl (by simpa [bitsF] using R), fun z => by omega⟩)
  | succ n ih =>
    intro h l hn hc R k
    refine bX1_put_57 (fun _ _ _ => ⟨fun z => by omega, fun z => ⟨by omega, by omega, R.1, s7_put R (fun g f1 R1 => ⟨rfl, ⟨by omega, by omega⟩, ?_⟩)⟩⟩)
    rw [lput_app (by omega), show (((n + 1 : Nat) : Int) - 1).toNat = n by omega] at R1
    rw [show (((n + 1 : Nat) : Int) - 1 + (-1)) = (n : Int) - 1 by omega]
    refine ih g _ (by omega) (by simp; omega) R1 (fun g2 f2 R2 => k g2 (f1.trans f2) ?_)
    simpa [bitsF] using R2
theorem s1_put {r cap : Nat} {l : List Int} {c : Int} (H : isBars h B) (R : isRow h r cap l) (hc : l.length + 13 ≤ cap) (k : ∀ h', jFI r (r + 2) h h' → isRow h' r cap (l ++ barV c) → Q (.inl none) h') : jCall (d + 1) mX1_put [jR B, jR r, jI c] h Q := by
  have st : ¬ (0 ≤ c ∧ c < 106) → jWp (d + 1) mX1_put 57 [(1, jR r), (4, jI patS), (6, jI (13 - 1))] [] h Q := fun z => by
    unfold barV at k
    rw [if_neg z] at k
    exact s1_put_loop 13 h l (by decide) (by omega) R k
  refine bX1_put (fun _ _ => ⟨fun z => ⟨H.1, fun _ => ?_⟩, fun z => ⟨H.1, ?_⟩⟩)
  · rw [H.2.2.2.2.2]
    exact ⟨⟨by decide, by decide⟩, st (by omega)⟩
  · have e : (0 ≤ c ∧ c < 106) → hA h (B + 1) c = patL.getD c.toNat 0 := fun y => by
      have := H.2.2.2.2.1 c.toNat (by omega)
      rw [Int.toNat_of_nonneg y.1] at this
      exact this
    rw [H.2.1, H.2.2.2.1, H.2.2.2.2.2]
    refine ⟨H.2.2.1, fun _ => ⟨fun z2 => fun _ => ⟨⟨by decide, by decide⟩, st (by omega)⟩, fun z2 => ⟨by omega, by omega, fun _ => ⟨⟨by decide, by decide⟩, ?_⟩⟩⟩⟩
    rw [e (by omega)]
    unfold barV at k
    rw [if_pos (by omega)] at k
    exact s1_put_loop 11 h l (by decide) (by omega) R k
end B1
/-! THE CHECK OF A SYMBOL -/
def chkS (l : List Int) : Nat → Nat → Int → Int
  | 0, _, a => a
  | n + 1, i, a => chkS l n (i + 1) (a + lAt l i * i)
def chkV (l : List Int) (n : Int) : Int := chkS l (n - 1).toNat 1 (lAt l 0) % 103
section C2
variable {d : Nat} {h : jH} {Q : jO → jH → Prop} {r cap : Nat} {l : List Int}
theorem s2_check_loop {m : Int} (hb : ∀ i, -1 ≤ lAt l i ∧ lAt l i ≤ 1000) (hm : m ≤ 1000) (R : isRow h r cap l) (n : Nat) : ∀ (i : Nat) (a : Int), (m - i).toNat = n → 1 ≤ i → -1000 * i ≤ a → a ≤ 1000000 * i → i ≤ 1000 → Q (.inl (some (jI (chkS l n i a % 103)))) h → jWp (d + 1) mX2_checkCharacter 8 [(0, jR r), (1, jI m), (2, jI a), (3, jI i)] [] h Q := by
  induction n with
  | zero =>
    intro i a hn h1 h2 h3 h4 k
    exact bX2_checkCharacter_8 (fun _ _ _ _ => ⟨fun _ => s9_floorMod (by decide) ⟨_, rfl, k⟩, fun z => by omega⟩)
  | succ n ih =>
    intro i a hn h1 h2 h3 h4 k
    have b := hb i
    have m1 : -1 * (i : Int) ≤ lAt l i * i := Int.mul_le_mul_of_nonneg_right b.1 (by omega)
    have m2 : lAt l i * i ≤ 1000 * (i : Int) := Int.mul_le_mul_of_nonneg_right b.2 (by omega)
    unfold chkS at k
    exact bX2_checkCharacter_8 (fun _ _ _ _ => ⟨fun z => by omega, fun z => ⟨R.1, s7_at R ⟨_, rfl, ⟨by omega, by omega⟩, ⟨by omega, by omega⟩, ⟨by omega, by omega⟩, ih (i + 1) _ (by omega) (by omega) (by omega) (by omega) (by omega) k⟩⟩⟩)
theorem s2_check {m : Int} (hb : ∀ i, -1 ≤ lAt l i ∧ lAt l i ≤ 1000) (hm : m ≤ 1000) (R : isRow h r cap l) (k : Q (.inl (some (jI (chkV l m)))) h) : jCall (d + 1) mX2_checkCharacter [jR r, jI m] h Q := by
  have b := hb 0
  exact bX2_checkCharacter (fun _ _ => ⟨R.1, s7_at R ⟨_, rfl, s2_check_loop hb hm R (m - 1).toNat 1 _ rfl (by omega) (by omega) (by omega) (by omega) k⟩⟩)
end C2
