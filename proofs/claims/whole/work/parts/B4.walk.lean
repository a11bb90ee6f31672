/-! WALKING THE BYTES -/
section WB
variable {d : Nat} {p : Nat} {ls : List (Nat × jV)} {st : List jV} {h : jH} {Q : jO → jH → Prop} {m : Nat}
theorem sg8 {v : Int} (h : -128 ≤ v ∧ v < 128) : ClassFile.Reader.signed 8 (v % 256).toNat = v := by
  unfold ClassFile.Reader.signed
  rw [show 2 ^ (8 - 1) = 128 by rfl, show 2 ^ 8 = 256 by rfl]
  split <;> omega
theorem sg16 {v : Int} (h : -32768 ≤ v ∧ v < 32768) : ClassFile.Reader.signed 16 ((v % 65536).toNat / 256 * 256 + (v % 65536).toNat % 256) = v := by
  rw [show (v % 65536).toNat / 256 * 256 + (v % 65536).toNat % 256 = (v % 65536).toNat by omega]
  unfold ClassFile.Reader.signed
  rw [show 2 ^ (16 - 1) = 32768 by rfl, show 2 ^ 16 = 65536 by rfl]
  split <;> omega
theorem wp_push {y : jM} {v : Int} (hv : -32768 ≤ v ∧ v < 32768) (hb : dBs y.2.1 p (pshI v)) (k : jWp d y (p + (pshI v).length) ls (jI v :: st) h Q) : jWp d y p ls st h Q := by
  unfold pshI at hb k
  split at hb
  · rename_i c
    rw [if_pos c] at k
    have dd := dec_icn hb.1 (by omega)
    rw [show (((v + 3).toNat : Nat) : Int) - 3 = v by omega] at dd
    exact wp_iconst dd ⟨by omega, by omega⟩ k
  · rename_i c
    rw [if_neg c] at k
    split at hb
    · rename_i c2
      rw [if_pos c2] at k
      have dd := dec_bip hb.1 hb.2.1
      rw [sg8 c2] at dd
      exact wp_bipush dd c2 k
    · rename_i c2
      rw [if_neg c2] at k
      have dd := dec_sip hb.1 hb.2.1 hb.2.2.1
      rw [sg16 hv] at dd
      exact wp_sipush dd hv k
def cOK : Nat → List Int → Prop
  | _, [] => True
  | i, v :: t => ((-32768 ≤ v ∧ v < 32768) ∨ (Cond.constant RX11 (116 + i) (Int32.ofInt v) ∈ jW ∧ j32 v)) ∧ cOK (i + 1) t
theorem cOK_c {i : Nat} {v : Int} {t : List Int} (a : (-32768 ≤ v ∧ v < 32768) ∨ (Cond.constant RX11 (116 + i) (Int32.ofInt v) ∈ jW ∧ j32 v)) (b : cOK (i + 1) t) : cOK i (v :: t) := ⟨a, b⟩
theorem cOK_small : ∀ (t : List Int) (i : Nat), (∀ v ∈ t, -32768 ≤ v ∧ v < 32768) → cOK i t
  | [], _ => fun _ => trivial
  | v :: t, i => fun h => ⟨.inl (h v (List.mem_cons_self ..)), cOK_small t (i + 1) (fun w hw => h w (List.mem_cons_of_mem _ hw))⟩
theorem wp_pushC {i : Nat} {v : Int} (hv : (-32768 ≤ v ∧ v < 32768) ∨ (Cond.constant RX11 (116 + i) (Int32.ofInt v) ∈ jW ∧ j32 v)) (hb : dBs cX11_init p (pshB i v)) (k : jWp d mX11_init (p + (pshB i v).length) ls (jI v :: st) h Q) : jWp d mX11_init p ls st h Q := by
  unfold pshB at hb k
  split at hb
  · rename_i c
    rw [if_pos c] at k
    exact wp_push (y := mX11_init) c hb k
  · rename_i c
    rw [if_neg c] at k
    rcases hv with e | ⟨e1, e2⟩
    · exact absurd e c
    · exact wp_ldc (own := RX11) (dec_ldc hb.1 hb.2.1) e1 rfl e2 k
def iniH (h : jH) (a : Nat) : Nat → List Int → jH
  | _, [] => h
  | i, v :: t => iniH (sA h a i v) a (i + 1) t
theorem wp_row {a : Nat} : ∀ (t : List Int) (i p : Nat) (h : jH), hK h a = 10 → (i : Int) + t.length ≤ hN h a → i + t.length ≤ 32768 → cOK i t → dBs cX11_init p (rowB i t) → jWp d mX11_init (p + (rowB i t).length) ls (jR a :: st) (iniH h a i t) Q → jWp d mX11_init p ls (jR a :: st) h Q
  | [], i, p, h => fun _ _ _ _ _ k => k
  | v :: t, i, p, h => fun hk hn hi hc hb k => by
    unfold rowB at hb k
    obtain ⟨b1, b2⟩ := hb
    obtain ⟨b2, b3⟩ := dBs_app b2
    obtain ⟨b3, b4⟩ := dBs_app b3
    rw [List.length_cons] at hn hi
    refine wp_dup (y := mX11_init) (dec_dup b1) rfl (wp_push (y := mX11_init) (v := (i : Int)) ⟨by omega, by omega⟩ b2 (wp_pushC hc.1 b3 (wp_iastore (y := mX11_init) (dec_ias b4.1) hk (by omega) (by omega) ?_)))
    refine wp_row t (i + 1) _ (sA h a (i : Int) v) hk (by show ((i + 1 : Nat) : Int) + t.length ≤ hN h a; omega) (by omega) hc.2 b4.2 ?_
    have e : p + (89 :: (pshI i ++ (pshB i v ++ 79 :: rowB (i + 1) t))).length = p + 1 + (pshI i).length + (pshB i v).length + 1 + (rowB (i + 1) t).length := by
      simp only [List.length_cons, List.length_append]; omega
    rw [e] at k
    exact k
def opH (h : jH) (m : Nat) (o : jOp) : jH := if o.1 = 0 then sI h (800 + o.2.1) m o.2.2.2.1 else sR (iniH (sN h o.1 o.2.2.2.1 o.2.2.2.1.toNat) (hS h) 0 o.2.2.2.2) (800 + o.2.1) m (hS h)
def opsH (h : jH) (m : Nat) : List jOp → jH
  | [] => h
  | o :: t => opsH (opH h m o) m t
def opA (o : jOp) : Prop := o.1 = 10 ∨ o.1 = 11 ∨ o.1 = 12
def opK (o : jOp) : Bool := decide (o.2.1 < 52 ∧ o.2.2.1 < 65536 ∧ -32768 ≤ o.2.2.2.1 ∧ o.2.2.2.1 < 32768) && (((TX11 o.2.1).2.2.2 == false) || ((TX11 o.2.1).2.2.2 == true && ((TX11 o.2.1).1 == RX11))) && (if o.1 = 0 then decide (j_ty 8 o.2.1 = .int) || (decide (j_ty 8 o.2.1 = .boolean) && decide (0 ≤ o.2.2.2.1 ∧ o.2.2.2.1 ≤ 1)) else decide (o.1 = 10 ∨ o.1 = 11 ∨ o.1 = 12) && j_isr (j_ty 8 o.2.1) && decide (0 ≤ o.2.2.2.1) && decide ((o.2.2.2.2.length : Int) ≤ o.2.2.2.1) && decide (o.1 = 10 ∨ o.2.2.2.2 = []))
def opL (o : jOp) : Prop := Cond.fieldLink RX11 o.2.2.1 (TX11 o.2.1).1 (TX11 o.2.1).2.1 (TX11 o.2.1).2.2.1 ∈ jW ∧ cOK 0 o.2.2.2.2
theorem iniH_K (a : Nat) : ∀ (t : List Int) (i : Nat) (h : jH), hK (iniH h a i t) = hK h ∧ hN (iniH h a i t) = hN h ∧ hS (iniH h a i t) = hS h ∧ hT (iniH h a i t) = hT h ∧ hI (iniH h a i t) = hI h ∧ hR (iniH h a i t) = hR h ∧ hQ (iniH h a i t) = hQ h
  | [], i, h => ⟨.refl _, .refl _, .refl _, .refl _, .refl _, .refl _, .refl _⟩
  | v :: t, i, h => iniH_K a t (i + 1) (sA h a i v)
theorem opK_fin {o : jOp} (hk : opK o = true) : (TX11 o.2.1).2.2.2 = false ∨ ((TX11 o.2.1).2.2.2 = true ∧ mX11_init.1.name = "<init>" ∧ (TX11 o.2.1).1 = mX11_init.1.cls) := by
  unfold opK at hk
  rw [Bool.and_eq_true, Bool.and_eq_true, Bool.or_eq_true, Bool.and_eq_true] at hk
  rcases hk.1.2 with e | ⟨e1, e2⟩
  · exact .inl (eq_of_beq e)
  · exact .inr ⟨eq_of_beq e1, rfl, eq_of_beq e2⟩
theorem wp_op {o : jOp} (hk : opK o = true) (hl : opL o) (hm : hK h m = 9) (h10 : m < hS h) (hb : dBs cX11_init p (opB o)) (k : jWp d mX11_init (p + (opB o).length) [(0, jR m)] [] (opH h m o) Q) : jWp d mX11_init p [(0, jR m)] [] h Q := by
  have fin := opK_fin hk
  unfold opB at hb k
  unfold opH at k
  unfold opK at hk
  rw [Bool.and_eq_true, Bool.and_eq_true] at hk
  obtain ⟨⟨k1, _⟩, k3⟩ := hk
  have k1 := of_decide_eq_true k1
  obtain ⟨b1, b2⟩ := hb
  obtain ⟨b2, b3⟩ := dBs_app b2
  obtain ⟨b3, b4⟩ := dBs_app b3
  refine wp_aload_n (y := mX11_init) 0 (dec_al0 b1) rfl (wp_push (y := mX11_init) ⟨k1.2.2.1, k1.2.2.2⟩ b2 ?_)
  have ei : o.2.2.1 / 256 * 256 + o.2.2.1 % 256 = o.2.2.1 := by omega
  have dp := dec_putf b4.1 b4.2.1 b4.2.2.1
  rw [ei] at dp
  by_cases c : o.1 = 0
  · rw [if_pos c] at k3 b3 b4 dp
    simp only [if_pos c] at k
    rw [Bool.or_eq_true, Bool.and_eq_true] at k3
    have ek : p + (42 :: (pshI o.2.2.2.1 ++ ([] ++ [181, o.2.2.1 / 256, o.2.2.1 % 256]))).length = p + 1 + (pshI o.2.2.2.1).length + ([] : List Nat).length + 3 := by
      simp only [List.length_cons, List.length_append, List.length_nil]; omega
    rw [ek] at k
    rcases k3 with t | ⟨t, t2⟩
    · exact wp_putI (y := mX11_init) (ci := 8) (j := o.2.1) rfl k1.1 hl.1 dp hm fin (of_decide_eq_true t) k
    · exact wp_putZ (y := mX11_init) (ci := 8) (j := o.2.1) rfl k1.1 hl.1 dp hm fin (of_decide_eq_true t) (of_decide_eq_true t2) k
  · rw [if_neg c] at k3 b3 b4 dp
    simp only [if_neg c] at k
    rw [Bool.and_eq_true, Bool.and_eq_true, Bool.and_eq_true, Bool.and_eq_true] at k3
    obtain ⟨⟨⟨⟨t1, t2⟩, t3⟩, t4⟩, t5⟩ := k3
    have t1 := of_decide_eq_true t1
    have t3 := of_decide_eq_true t3
    have t4 := of_decide_eq_true t4
    have t5 := of_decide_eq_true t5
    have ek : p + (42 :: (pshI o.2.2.2.1 ++ ((188 :: (if o.1 = 10 then 10 else if o.1 = 11 then 8 else 4) :: rowB 0 o.2.2.2.2) ++ [181, o.2.2.1 / 256, o.2.2.1 % 256]))).length = p + 1 + (pshI o.2.2.2.1).length + (188 :: (if o.1 = 10 then 10 else if o.1 = 11 then 8 else 4) :: rowB 0 o.2.2.2.2).length + 3 := by
      simp only [List.length_cons, List.length_append, List.length_nil]; omega
    rw [ek] at k
    obtain ⟨b5, b6, b7⟩ := b3
    have H1 : hK (iniH (sN h o.1 o.2.2.2.1 o.2.2.2.1.toNat) (hS h) 0 o.2.2.2.2) m = 9 := by
      rw [(iniH_K (hS h) o.2.2.2.2 0 _).1, hK_sN, if_neg (by omega)]
      exact hm
    have fin2 : jWp d mX11_init (p + 1 + (pshI o.2.2.2.1).length + 2 + (rowB 0 o.2.2.2.2).length) [(0, jR m)] [jR (hS h), jR m] (iniH (sN h o.1 o.2.2.2.1 o.2.2.2.1.toNat) (hS h) 0 o.2.2.2.2) Q := by
      have e2 : p + 1 + (pshI o.2.2.2.1).length + (188 :: (if o.1 = 10 then 10 else if o.1 = 11 then 8 else 4) :: rowB 0 o.2.2.2.2).length = p + 1 + (pshI o.2.2.2.1).length + 2 + (rowB 0 o.2.2.2.2).length := by
        simp only [List.length_cons]; omega
      rw [e2] at dp k
      exact wp_putR (y := mX11_init) (ci := 8) (j := o.2.1) rfl k1.1 hl.1 dp H1 fin t2 k
    rcases t1 with e | e | e
    · rw [e] at b6 fin2
      refine wp_newa (y := mX11_init) (at' := .int) (ty := .int) rfl (.inl ⟨rfl, rfl⟩) ar_int (dec_newI b5 b6) ⟨t3, by omega⟩ ?_
      refine wp_row o.2.2.2.2 0 _ _ (by rw [hK_sN, if_pos rfl]) (by rw [hN_sN, if_pos rfl]; omega) (by omega) hl.2 b7 fin2
    · have v0 := t5.resolve_left (by omega)
      rw [v0] at fin2
      rw [e] at b6 fin2
      exact wp_newa (y := mX11_init) (at' := .byte) (ty := .byte) rfl (.inr (.inl ⟨rfl, rfl⟩)) ar_byte (dec_newB b5 b6) ⟨t3, by omega⟩ fin2
    · have v0 := t5.resolve_left (by omega)
      rw [v0] at fin2
      rw [e] at b6 fin2
      exact wp_newa (y := mX11_init) (at' := .boolean) (ty := .boolean) rfl (.inr (.inr (.inl ⟨rfl, rfl⟩))) ar_boolean (dec_newZ b5 b6) ⟨t3, by omega⟩ fin2
end WB
