/-! WHAT HOLDS AFTER EVERY CALL -/
def okIv (es : List jE) : Prop := es.length ≤ 20 ∧ ∀ y ∈ es, okE y
def jInv (s : jP) : Prop := okT s.1.1 ∧ (∀ c ∈ s.1.2.1, 0 ≤ c ∧ c < 128) ∧ bitL s.1.2.2.1 ∧ symOk s.1.2.2.2 ∧ (okIv s.2.1.1 ∧ ∀ i : Nat, i < 8 → okIv (s.2.1.2 i)) ∧ (1950 ≤ s.2.2.1.1 ∧ s.2.2.1.1 ≤ 2200) ∧ 0 ≤ s.2.2.2.2.2 ∧ s.2.2.2.2.2 ≤ 1
section JI
variable {s : jP}
theorem jInv.tape (I : jInv s) : okT s.1.1 := I.1
theorem jInv.outs (I : jInv s) : ∀ c ∈ s.1.2.1, 0 ≤ c ∧ c < 128 := I.2.1
theorem jInv.bits (I : jInv s) : bitL s.1.2.2.1 := I.2.2.1
theorem jInv.sym (I : jInv s) : symOk s.1.2.2.2 := I.2.2.2.1
theorem jInv.lst (I : jInv s) : okIv s.2.1.1 := I.2.2.2.2.1.1
theorem jInv.shv (I : jInv s) {i : Nat} (hi : i < 8) : okIv (s.2.1.2 i) := I.2.2.2.2.1.2 i hi
theorem jInv.clk (I : jInv s) : 1950 ≤ s.2.2.1.1 ∧ s.2.2.1.1 ≤ 2200 := I.2.2.2.2.2.1
theorem jInv.scn (I : jInv s) : 0 ≤ s.2.2.2.2.2 ∧ s.2.2.2.2.2 ≤ 1 := I.2.2.2.2.2.2
theorem jInv.byt (I : jInv s) : ∀ y ∈ s.2.1.1, ∀ c ∈ y.2.2.1, 32 ≤ c ∧ c < 128 := fun y hy => (I.lst.2 y hy).2.1
theorem okT_app {a b : List Int} (h : okT a) (k : okT b) : okT (a ++ b) := fun x hx => (List.mem_append.mp hx).elim (h x) (k x)
theorem bitL_app {a b : List Int} (h : bitL a) (k : bitL b) : bitL (a ++ b) := fun x hx => (List.mem_append.mp hx).elim (h x) (k x)
theorem by4_ok (a : Int) : okT (by4 a) := fun x hx => by
  unfold by4 at hx
  simp only [List.mem_cons, List.not_mem_nil, or_false] at hx
  rcases hx with e | e | e | e <;> subst e <;> omega
theorem bitsF_ok (p : Int) : ∀ n, bitL (bitsF p n)
  | 0 => fun x hx => nomatch hx
  | n + 1 => fun x hx => by
    rcases List.mem_cons.mp hx with e | e
    · subst e; omega
    · exact bitsF_ok p n x e
theorem I_feed (I : jInv s) (a b c d e : Int) : jInv (feedV s a b c d e).2 := by
  unfold feedV
  split
  · exact I
  · exact ⟨okT_app I.1 (okT_app (by4_ok a) (okT_app (by4_ok b) (okT_app (by4_ok c) (okT_app (by4_ok d) (by4_ok e))))), I.2⟩
theorem I_end (I : jInv s) (n : Int) : jInv (endV s n).2 := by
  unfold endV
  split
  · exact ⟨fun x hx => I.1 x (List.mem_of_mem_take hx), I.2⟩
  · exact I
theorem I_take (I : jInv s) : jInv ((s.1.2.1.take 600, s.1.2), s.2) := ⟨fun x hx => by have := I.2.1 x (List.mem_of_mem_take hx); omega, I.2⟩
theorem I_clock (I : jInv s) (y : Int) : jInv (clockV s y).2 := by
  unfold clockV
  split
  · rename_i q; exact ⟨I.1, I.2.1, I.2.2.1, I.2.2.2.1, I.2.2.2.2.1, q, I.2.2.2.2.2.2⟩
  · exact I
theorem I_acc (I : jInv s) {r : List jE × Option (Int × Int)} (hr : okIv r.1) : jInv (accV s r).2 := by
  unfold accV
  split
  · exact ⟨I.1, I.2.1, I.2.2.1, I.2.2.2.1, ⟨hr, I.2.2.2.2.1.2⟩, I.2.2.2.2.2.1, I.2.2.2.2.2.2⟩
  · exact ⟨I.1, I.2.1, I.2.2.1, I.2.2.2.1, I.2.2.2.2.1, I.2.2.2.2.2.1, I.2.2.2.2.2.2⟩
theorem okIv_nil : okIv [] := ⟨by simp, fun y hy => nomatch hy⟩
theorem I_none (I : jInv s) : jInv (([], s.1.2), s.2) := ⟨(fun y hy => nomatch hy : okT []), I.2⟩
theorem I_read (I : jInv s) (br : Bool) : jInv (readV s br).2 :=
  I_acc (I_none I) (rtF_inv s.1.1 br true I.clk 21 0 [] [] (by simp) (fun y hy => nomatch hy))
theorem okB_of {t : List Int} (h : okB t) : ∀ c ∈ t, 0 ≤ c ∧ c < 128 := fun c hc => by rcases h c hc with e | e <;> omega
theorem escV_ok : ∀ {b : List Int}, (∀ c ∈ b, 32 ≤ c ∧ c < 128) → ∀ c ∈ escV b, 0 ≤ c ∧ c < 128
  | [], _ => fun c hc => nomatch hc
  | a :: t, h => fun c hc => by
    rw [escV_cons] at hc
    rcases List.mem_append.mp hc with e | e
    · have ha := h a (List.mem_cons_self ..)
      split at e
      · simp only [List.mem_cons, List.not_mem_nil, or_false] at e
        rcases e with e | e <;> subst e <;> omega
      · simp only [List.mem_cons, List.not_mem_nil, or_false] at e
        subst e; omega
    · exact escV_ok (fun c hc => h c (List.mem_cons_of_mem _ hc)) c e
theorem brStr_ok {x : jE} (h : ∀ c ∈ x.2.2.1, 32 ≤ c ∧ c < 128) : ∀ c ∈ brStr x, 0 ≤ c ∧ c < 128 := fun c hc => by
  unfold brStr at hc
  simp only [List.mem_append, List.mem_cons, List.not_mem_nil, or_false] at hc
  rcases hc with ((e | e) | e) | e
  · omega
  · have := aiF_rg _ _ _ c e; omega
  · omega
  · exact escV_ok h c e
theorem I_write (I : jInv s) (br : Bool) : jInv ((s.1.1, writeV s.2.1.1 br, s.1.2.2), s.2) := by
  refine ⟨I.1, fun c hc => ?_, I.2.2⟩
  unfold writeV at hc
  split at hc
  · obtain ⟨y, hy, hc⟩ := List.mem_flatMap.mp hc
    exact brStr_ok (I.byt y hy) c hc
  · exact okB_of (strF_ok I.byt _ _) c hc
theorem okIv_arr {es : List jE} (h : okIv es) : okIv (arrE es) := by
  have p : (arrE es).Perm es := List.filter_append_perm fixE es
  exact ⟨by rw [p.length_eq]; exact h.1, fun y hy => h.2 y (p.mem_iff.mp hy)⟩
theorem I_lst (I : jInv s) {es : List jE} (h : okIv es) : jInv (s.1, (es, s.2.1.2), s.2.2) := ⟨I.1, I.2.1, I.2.2.1, I.2.2.2.1, ⟨h, I.2.2.2.2.1.2⟩, I.2.2.2.2.2⟩
theorem I_arr (I : jInv s) : jInv (s.1, (arrE s.2.1.1, s.2.1.2), s.2.2) := I_lst I (okIv_arr I.lst)
theorem I_shelve (I : jInv s) (i : Nat) : jInv (s.1, (s.2.1.1, setS s.2.1.2 i s.2.1.1), s.2.2) := by
  refine ⟨I.1, I.2.1, I.2.2.1, I.2.2.2.1, ⟨I.lst, fun j hj => ?_⟩, I.2.2.2.2.2⟩
  show okIv (if j = i then s.2.1.1 else s.2.1.2 j)
  split
  · exact I.lst
  · exact I.shv hj
theorem I_fetch (I : jInv s) {i : Nat} (hi : i < 8) : jInv (s.1, (s.2.1.2 i, s.2.1.2), s.2.2) := I_lst I (I.shv hi)
theorem I_join (I : jInv s) {i : Nat} (hi : i < 8) : jInv (joinV s (s.2.1.2 i)).2 := by
  unfold joinV
  split
  · exact I
  · split
    · refine I_lst I ⟨by rw [List.length_append]; omega, fun y hy => ?_⟩
      exact (List.mem_append.mp hy).elim (I.lst.2 y) ((I.shv hi).2 y)
    · exact I
theorem I_symL (I : jInv s) {l : List Int} (h : symOk l) : jInv ((s.1.1, s.1.2.1, s.1.2.2.1, l), s.2) := ⟨I.1, I.2.1, I.2.2.1, h, I.2.2.2.2⟩
theorem I_strip (I : jInv s) {l : List Int} (h : bitL l) : jInv ((s.1.1, s.1.2.1, l, s.1.2.2.2), s.2) := ⟨I.1, I.2.1, h, I.2.2.2⟩
theorem I_symbol (I : jInv s) (k : Nat) : jInv (symV s k).2 := by
  unfold symV
  split
  · exact I
  · refine I_symL I (encV_ok ?_ (strF_ok I.byt _ _))
    have hd : ∀ j, 0 ≤ (s.2.1.1.getD j dE).2.1 := fun j => by
      by_cases hj : j < s.2.1.1.length
      · have hm : s.2.1.1.getD j dE ∈ s.2.1.1 := by
          rw [List.getD_eq_getElem?_getD, List.getElem?_eq_getElem hj]
          exact List.getElem_mem _
        have := lineV_dg (I.lst.2 _ hm).1
        omega
      · rw [getD_out hj]; decide
    have sl := strF_len (es := s.2.1.1) (f := k) hd (seV s.2.1.1 k - k) k
    have ss := seF_sum s.2.1.1 k (s.2.1.1.length - k) k 0 (by decide)
    unfold symStr
    unfold seV at sl ⊢
    omega
theorem I_bars (I : jInv s) (a b c d e : Int) : jInv (barsV s a b c d e).2 := by
  unfold barsV
  split
  · exact I
  · exact I_strip I (bitL_app I.bits (bitL_app (bitsF_ok a 32) (bitL_app (bitsF_ok b 32) (bitL_app (bitsF_ok c 32) (bitL_app (bitsF_ok d 32) (bitsF_ok e 32))))))
theorem I_cut (I : jInv s) (n : Int) : jInv (cutV s n).2 := by
  unfold cutV
  split
  · exact I_strip I (fun x hx => I.bits x (List.mem_of_mem_take hx))
  · exact I
theorem I_turn (I : jInv s) : jInv ((s.1.1, s.1.2.1, s.1.2.2.1.reverse, s.1.2.2.2), s.2) := I_strip I (fun x hx => I.bits x (List.mem_reverse.mp hx))
theorem I_ink (I : jInv s) (i : Int) (b : Bool) : jInv (inkV s i b).2 := by
  unfold inkV
  split
  · refine I_strip I (fun x hx => ?_)
    rcases List.mem_or_eq_of_mem_set hx with e | e
    · exact I.bits x e
    · subst e; cases b <;> simp [b2i]
  · exact I
theorem barV_ok (c : Int) : bitL (barV c) := by
  unfold barV
  split
  · exact bitsF_ok _ _
  · exact bitsF_ok _ _
theorem I_print (I : jInv s) : jInv ((s.1.1, s.1.2.1, prtL s.1.2.2.2, s.1.2.2.2), s.2) := by
  refine I_strip I ?_
  unfold prtL
  have z : bitL (List.replicate 10 0) := fun x hx => .inl (List.eq_of_mem_replicate hx)
  refine bitL_app z (bitL_app (fun x hx => ?_) z)
  obtain ⟨c, _, hx⟩ := List.mem_flatMap.mp hx
  exact barV_ok c x hx
theorem I_scan (I : jInv s) : jInv (scanV s).2 := by
  unfold scanV
  split
  · exact ⟨I.1, I.2.1, I.2.2.1, I.2.2.2.1, I.2.2.2.2.1, I.2.2.2.2.2.1, I.2.2.2.2.2.2⟩
  · have b01 : ∀ b : Bool, 0 ≤ b2i b ∧ b2i b ≤ 1 := by decide
    split
    · exact ⟨I.1, I.2.1, I.2.2.1, I.2.2.2.1, I.2.2.2.2.1, I.2.2.2.2.2.1, b01 _⟩
    · refine I_acc (s := (s.1, s.2.1, s.2.2.1, (((rbV s.1.2.2.1).1.length : Int), ((tlV (rbV s.1.2.2.1).1 (rbV s.1.2.2.1).2.1).1.length : Int), b2i (frV s.1.2.2.1 (lzV s.1.2.2.1) (wiV s.1.2.2.1))))) ⟨I.1, I.2.1, I.2.2.1, I.2.2.2.1, I.2.2.2.2.1, I.2.2.2.2.2.1, b01 _⟩ ?_
      exact rtF_inv _ false false I.clk 21 0 [] [] (by simp) (fun y hy => nomatch hy)
end JI
