/-! WHAT LIES BELOW STAYS -/
def uFr (b0 n : Nat) (h h' : jH) : Prop := ∀ o, b0 ≤ o ∧ o < n → (∀ f, hI h' f o = hI h f o ∧ hR h' f o = hR h f o) ∧ (∀ i, hA h' o i = hA h o i ∧ hQ h' o i = hQ h o i) ∧ hK h' o = hK h o ∧ hN h' o = hN h o
section UF
variable {b0 n : Nat} {h h1 h2 : jH}
theorem uFr.rfl : uFr b0 n h h := fun _ _ => ⟨fun _ => ⟨.refl _, .refl _⟩, fun _ => ⟨.refl _, .refl _⟩, .refl _, .refl _⟩
theorem uFr.trans (p : uFr b0 n h h1) (q : uFr b0 n h1 h2) : uFr b0 n h h2 := fun o ho => ⟨fun f => ⟨((q o ho).1 f).1.trans ((p o ho).1 f).1, ((q o ho).1 f).2.trans ((p o ho).1 f).2⟩, fun i => ⟨((q o ho).2.1 i).1.trans ((p o ho).2.1 i).1, ((q o ho).2.1 i).2.trans ((p o ho).2.1 i).2⟩, (q o ho).2.2.1.trans (p o ho).2.2.1, (q o ho).2.2.2.trans (p o ho).2.2.2⟩
theorem uFr.mono {a' n' : Nat} (p : uFr b0 n h h1) (ha : b0 ≤ a') (hn : n' ≤ n) : uFr a' n' h h1 := fun o ho => p o (by omega)
theorem uFr.sN (hn : n ≤ hS h) (kd : Nat) (v : Int) (sz : Nat) : uFr b0 n h (sN h kd v sz) := fun o ho => by
  have e : ¬ o = hS h := by omega
  refine ⟨fun f => ⟨?_, ?_⟩, fun i => ⟨?_, ?_⟩, ?_, ?_⟩
  · show (if o = hS h then 0 else hI h f o) = _; rw [if_neg e]
  · show (if o = hS h then 0 else hR h f o) = _; rw [if_neg e]
  · show (if o = hS h then 0 else hA h o i) = _; rw [if_neg e]
  · show (if o = hS h then 0 else hQ h o i) = _; rw [if_neg e]
  · show j1 _ _ _ _ = _; unfold j1; rw [if_neg e]
  · show j1 _ _ _ _ = _; unfold j1; rw [if_neg e]
theorem uFr.sI (p : uFr b0 n h h1) {f o : Nat} {v : Int} (ho : o < b0 ∨ n ≤ o) : uFr b0 n h (sI h1 f o v) := fun q hq => by
  refine ⟨fun g => ⟨?_, ((p q hq).1 g).2⟩, (p q hq).2.1, (p q hq).2.2⟩
  rw [hI_sI, if_neg (by omega)]; exact ((p q hq).1 g).1
theorem uFr.sR (p : uFr b0 n h h1) {f o v : Nat} (ho : o < b0 ∨ n ≤ o) : uFr b0 n h (sR h1 f o v) := fun q hq => by
  refine ⟨fun g => ⟨((p q hq).1 g).1, ?_⟩, (p q hq).2.1, (p q hq).2.2⟩
  rw [hR_sR, if_neg (by omega)]; exact ((p q hq).1 g).2
theorem uFr.sA (p : uFr b0 n h h1) {a : Nat} {i v : Int} (ho : a < b0 ∨ n ≤ a) : uFr b0 n h (sA h1 a i v) := fun q hq => by
  refine ⟨(p q hq).1, fun j => ⟨?_, ((p q hq).2.1 j).2⟩, (p q hq).2.2⟩
  rw [hA_sA, if_neg (by omega)]; exact ((p q hq).2.1 j).1
theorem uFr.sQ (p : uFr b0 n h h1) {a v : Nat} {i : Int} (ho : a < b0 ∨ n ≤ a) : uFr b0 n h (sQ h1 a i v) := fun q hq => by
  refine ⟨(p q hq).1, fun j => ⟨((p q hq).2.1 j).1, ?_⟩, (p q hq).2.2⟩
  rw [hQ_sQ, if_neg (by omega)]; exact ((p q hq).2.1 j).2
theorem jFr.u {a b : Nat} (p : jFr a b h h1) (hn : n ≤ a ∨ b ≤ b0) : uFr b0 n h h1 := fun o ho => by
  obtain ⟨p1, p2, p3, p4, p5⟩ := p
  have q := p5 o (by omega)
  exact ⟨fun f => q.1 f, fun i => q.2 i, by rw [p1], by rw [p2]⟩
theorem mFr.u {m : Nat} {fs as : List Nat} (p : mFr m fs as h h1) (hn : n ≤ m) : uFr b0 n h h1 := fun o ho => ⟨fun f => ⟨p.2.1 f o (fun e => by omega), by rw [p.1.1]⟩, fun i => ⟨p.2.2 o i (fun a _ => by omega), by rw [p.1.2.1]⟩, by rw [p.1.2.2.1], by rw [p.1.2.2.2.1]⟩
theorem uFr.i (p : uFr b0 n h h1) {o : Nat} (ho : b0 ≤ o ∧ o < n) (f : Nat) : hI h1 f o = hI h f o := ((p o ho).1 f).1
theorem uFr.r (p : uFr b0 n h h1) {o : Nat} (ho : b0 ≤ o ∧ o < n) (f : Nat) : hR h1 f o = hR h f o := ((p o ho).1 f).2
theorem uFr.a (p : uFr b0 n h h1) {o : Nat} (ho : b0 ≤ o ∧ o < n) (i : Int) : hA h1 o i = hA h o i := ((p o ho).2.1 i).1
theorem uFr.q (p : uFr b0 n h h1) {o : Nat} (ho : b0 ≤ o ∧ o < n) (i : Int) : hQ h1 o i = hQ h o i := ((p o ho).2.1 i).2
theorem uFr.k (p : uFr b0 n h h1) {o : Nat} (ho : b0 ≤ o ∧ o < n) : hK h1 o = hK h o := (p o ho).2.2.1
theorem uFr.len (p : uFr b0 n h h1) {o : Nat} (ho : b0 ≤ o ∧ o < n) : hN h1 o = hN h o := (p o ho).2.2.2
theorem uFr.row (p : uFr b0 n h h1) {r cap : Nat} {l : List Int} (q : isRow h r cap l) (hr : b0 ≤ r ∧ r + 2 ≤ n) : isRow h1 r cap l := by
  obtain ⟨q1, q2, q3, q4, q5, q6, q7⟩ := q
  exact ⟨(p.k (by omega)).trans q1, (p.r (by omega) _).trans q2, (p.k (by omega)).trans q3, (p.len (by omega)).trans q4, (p.i (by omega) _).trans q5, q6, fun i hi => (p.a (by omega) _).trans (q7 i hi)⟩
theorem uFr.el (p : uFr b0 n h h1) {e : Nat} {x : jE} (q : isEl h e x) (hr : b0 ≤ e ∧ e + 3 ≤ n) : isEl h1 e x := by
  obtain ⟨q1, q2, q3, q4, q5, q6, q7, q8, q9⟩ := q
  exact ⟨(p.k (by omega)).trans q1, (p.r (by omega) _).trans q2, p.row q3 (by omega), (p.i (by omega) _).trans q4, (p.i (by omega) _).trans q5, (p.i (by omega) _).trans q6, (p.i (by omega) _).trans q7, (p.i (by omega) _).trans q8, q9⟩
theorem uFr.shEl (p : uFr b0 n h h1) {e : Nat} (q : shEl h e) (hr : b0 ≤ e ∧ e + 3 ≤ n) : shEl h1 e := by
  obtain ⟨q1, q2, l, q3⟩ := q
  exact ⟨(p.k (by omega)).trans q1, (p.r (by omega) _).trans q2, l, p.row q3 (by omega)⟩
theorem uFr.labSh (p : uFr b0 n h h1) {L : Nat} (q : labSh h L) (hr : b0 ≤ L ∧ L + 63 ≤ n) : labSh h1 L := by
  obtain ⟨q1, q2, q3, q4, q5, q6, q7, q8, q9, q10⟩ := q
  have e : ∀ k, elV h1 L k = elV h L k := fun k => p.q (by omega) _
  refine ⟨(p.k (by omega)).trans q1, (p.r (by omega) _).trans q2, (p.r (by omega) _).trans q3, (p.k (by omega)).trans q4, (p.k (by omega)).trans q5, (p.len (by omega)).trans q6, (p.len (by omega)).trans q7, fun k hk => ?_, fun i hi j hj => ?_, fun j hj => p.shEl (q10 j hj) (by omega)⟩
  · rw [e]; exact q8 k hk
  · rw [e, e]; exact q9 i hi j hj
theorem uFr.lab (p : uFr b0 n h h1) {L : Nat} {es : List jE} (q : isLab h L es) (hr : b0 ≤ L ∧ L + 63 ≤ n) : isLab h1 L es := by
  obtain ⟨q1, q2, q3, q4⟩ := q
  have e : ∀ k, elV h1 L k = elV h L k := fun k => p.q (by omega) _
  refine ⟨p.labSh q1 hr, (p.i (by omega) _).trans q2, q3, fun k hk => ?_⟩
  rw [e]
  obtain ⟨j, hj, ej⟩ := q1.2.2.2.2.2.2.2.1 k (by omega)
  exact p.el (q4 k hk) (by omega)
theorem uFr.enc (p : uFr b0 n h h1) {N q : Nat} (H : isEnc h N q) (hr : b0 ≤ N ∧ N + 3 ≤ n) : isEnc h1 N q := by
  obtain ⟨q1, q2, q3, q4, q5, q6, q7, q8⟩ := H
  exact ⟨(p.k (by omega)).trans q1, (p.r (by omega) _).trans q2, (p.r (by omega) _).trans q3, (p.k (by omega)).trans q4, (p.k (by omega)).trans q5, (p.len (by omega)).trans q6, (p.len (by omega)).trans q7, (p.r (by omega) _).trans q8⟩
theorem uFr.bars (p : uFr b0 n h h1) {B : Nat} (H : isBars h B) (hr : b0 ≤ B ∧ B + 2 ≤ n) : isBars h1 B := by
  obtain ⟨q1, q2, q3, q4, q5, q6⟩ := H
  exact ⟨(p.k (by omega)).trans q1, (p.r (by omega) _).trans q2, (p.k (by omega)).trans q3, (p.len (by omega)).trans q4, fun i hi => (p.a (by omega) _).trans (q5 i hi), (p.i (by omega) _).trans q6⟩
theorem uFr.br (p : uFr b0 n h h1) {P B q : Nat} {lo wi : Int} {fr : Bool} (H : isBR h P B q lo wi fr) (hr : b0 ≤ P ∧ P + 1 ≤ n) : isBR h1 P B q lo wi fr := by
  obtain ⟨q1, q2, q3, q4, q5, q6, q7, q8⟩ := H
  exact ⟨(p.k (by omega)).trans q1, (p.r (by omega) _).trans q2, (p.r (by omega) _).trans q3, (p.r (by omega) _).trans q4, (p.r (by omega) _).trans q5, (p.i (by omega) _).trans q6, (p.i (by omega) _).trans q7, (p.i (by omega) _).trans q8⟩
theorem uFr.tr (p : uFr b0 n h h1) {T q : Nat} {br : Bool} {clk pl : Int} (H : isTR h T q br clk pl) (hr : b0 ≤ T ∧ T + 1 ≤ n) : isTR h1 T q br clk pl := by
  obtain ⟨q1, q2, q3, q4, q5, q6, q7⟩ := H
  exact ⟨(p.k (by omega)).trans q1, (p.r (by omega) _).trans q2, (p.r (by omega) _).trans q3, (p.r (by omega) _).trans q4, (p.i (by omega) _).trans q5, (p.i (by omega) _).trans q6, (p.i (by omega) _).trans q7⟩
theorem uFr.lp (p : uFr b0 n h h1) {x : Nat} {s : jP} (H : isLP h x s) (hr : b0 ≤ x ∧ x + 724 ≤ n) : isLP h1 x s := by
  obtain ⟨q0, q1, q2, q3, q4, ⟨l, q5⟩, q6, q7, q8, q9, q10, q11, ⟨q, q12⟩, q13, q14⟩ := H
  refine ⟨?_, ?_, p.row q2 (by omega), p.row q3 (by omega), p.row q4 (by omega), ⟨l, p.row q5 (by omega)⟩, p.row q6 (by omega), p.lab q7 (by omega), p.labSh q8 (by omega), ?_, fun i hi => p.lab (q10 i hi) (by omega), ?_, ⟨q, p.enc q12 (by omega)⟩, p.bars q13 (by omega), ?_⟩
  · obtain ⟨a0, a1, a2, a3, a4, a5, a6, a7, a8, a9, a10, a11, a12⟩ := q0
    have v := fun f => p.r (show b0 ≤ x ∧ x < n by omega) f
    exact ⟨(p.k (by omega)).trans a0, (v _).trans a1, (v _).trans a2, (v _).trans a3, (v _).trans a4, (v _).trans a5, (v _).trans a6, (v _).trans a7, (v _).trans a8, (v _).trans a9, (v _).trans a10, (v _).trans a11, (v _).trans a12⟩
  · obtain ⟨a1, a2, a3, a4, a5, a6⟩ := q1
    have v := fun f => p.i (show b0 ≤ x ∧ x < n by omega) f
    exact ⟨(v _).trans a1, (v _).trans a2, (v _).trans a3, (v _).trans a4, (v _).trans a5, (v _).trans a6⟩
  · exact ⟨(p.k (by omega)).trans q9.1, (p.len (by omega)).trans q9.2.1, fun i hi => (p.q (by omega) _).trans (q9.2.2 i hi)⟩
  · obtain ⟨⟨u1, u2, u3, u4, u5⟩, u6, ps, u7⟩ := q11
    exact ⟨⟨u1, u2, u3, u4, p.tr u5 (by omega)⟩, p.labSh u6 (by omega), ps, p.row u7 (by omega)⟩
  · obtain ⟨u1, u2, u3, u4, u5, u6, u7, u8, u9⟩ := q14
    exact ⟨u1, u2, u3, u4, u5, u6, p.br u7 (by omega), p.row u8 (by omega), p.row u9 (by omega)⟩
theorem uFr.trip (p : uFr b0 n h h1) {m a f kd sz : Nat} (hr : b0 ≤ m ∧ m + 30 ≤ n) (ha : a < 30) (H : hR h f m = m + a ∧ hK h (m + a) = kd ∧ hN h (m + a) = sz) : hR h1 f m = m + a ∧ hK h1 (m + a) = kd ∧ hN h1 (m + a) = sz :=
  ⟨(p.r (by omega) f).trans H.1, (p.k (by omega)).trans H.2.1, (p.len (by omega)).trans H.2.2⟩
theorem uFr.msh (p : uFr b0 n h h1) {m : Nat} (hr : b0 ≤ m ∧ m + 30 ≤ n) (H : mSh h m) : mSh h1 m :=
  ⟨(p.k (by omega)).trans H.1, p.trip hr (by decide) H.2.1, p.trip hr (by decide) H.2.2.1, p.trip hr (by decide) H.2.2.2.1, p.trip hr (by decide) H.2.2.2.2.1, p.trip hr (by decide) H.2.2.2.2.2.1, p.trip hr (by decide) H.2.2.2.2.2.2.1, p.trip hr (by decide) H.2.2.2.2.2.2.2.1, p.trip hr (by decide) H.2.2.2.2.2.2.2.2.1, p.trip hr (by decide) H.2.2.2.2.2.2.2.2.2.1, p.trip hr (by decide) H.2.2.2.2.2.2.2.2.2.2.1, p.trip hr (by decide) H.2.2.2.2.2.2.2.2.2.2.2.1, p.trip hr (by decide) H.2.2.2.2.2.2.2.2.2.2.2.2.1, p.trip hr (by decide) H.2.2.2.2.2.2.2.2.2.2.2.2.2.1, p.trip hr (by decide) H.2.2.2.2.2.2.2.2.2.2.2.2.2.2.1, p.trip hr (by decide) H.2.2.2.2.2.2.2.2.2.2.2.2.2.2.2.1, p.trip hr (by decide) H.2.2.2.2.2.2.2.2.2.2.2.2.2.2.2.2.1, p.trip hr (by decide) H.2.2.2.2.2.2.2.2.2.2.2.2.2.2.2.2.2.1, p.trip hr (by decide) H.2.2.2.2.2.2.2.2.2.2.2.2.2.2.2.2.2.2.1, p.trip hr (by decide) H.2.2.2.2.2.2.2.2.2.2.2.2.2.2.2.2.2.2.2.1, p.trip hr (by decide) H.2.2.2.2.2.2.2.2.2.2.2.2.2.2.2.2.2.2.2.2.1, p.trip hr (by decide) H.2.2.2.2.2.2.2.2.2.2.2.2.2.2.2.2.2.2.2.2.2.1, p.trip hr (by decide) H.2.2.2.2.2.2.2.2.2.2.2.2.2.2.2.2.2.2.2.2.2.2.1, p.trip hr (by decide) H.2.2.2.2.2.2.2.2.2.2.2.2.2.2.2.2.2.2.2.2.2.2.2.1, p.trip hr (by decide) H.2.2.2.2.2.2.2.2.2.2.2.2.2.2.2.2.2.2.2.2.2.2.2.2.1, p.trip hr (by decide) H.2.2.2.2.2.2.2.2.2.2.2.2.2.2.2.2.2.2.2.2.2.2.2.2.2.1, p.trip hr (by decide) H.2.2.2.2.2.2.2.2.2.2.2.2.2.2.2.2.2.2.2.2.2.2.2.2.2.2.1, p.trip hr (by decide) H.2.2.2.2.2.2.2.2.2.2.2.2.2.2.2.2.2.2.2.2.2.2.2.2.2.2.2.1, p.trip hr (by decide) H.2.2.2.2.2.2.2.2.2.2.2.2.2.2.2.2.2.2.2.2.2.2.2.2.2.2.2.2.1, p.trip hr (by decide) H.2.2.2.2.2.2.2.2.2.2.2.2.2.2.2.2.2.2.2.2.2.2.2.2.2.2.2.2.2⟩
theorem uFr.md (p : uFr b0 n h h1) {m : Nat} {s : jP} (M : isMD h m s) (hr : b0 ≤ m ∧ m + 30 ≤ n) : isMD h1 m s := by
  have i := fun f => p.i (show b0 ≤ m ∧ m < n by omega) f
  have a := fun b (hb : b < 30) j => p.a (show b0 ≤ m + b ∧ m + b < n by omega) j
  have el : ∀ {e : Int} {x : jE}, mEl h m e x → mEl h1 m e x := fun E => E.to ⟨a 12 (by decide) _, a 13 (by decide) _, a 14 (by decide) _, a 14 (by decide) _, fun _ _ => a 15 (by decide) _⟩
  have ls : ∀ {c : Int} {es : List jE}, mLst h m c es → mLst h1 m c es := fun L => ⟨(a 11 (by decide) _).trans L.1, L.2.1, fun k hk => el (L.2.2 k hk)⟩
  have row : ∀ {c b N : Nat} {l : List Int}, b < 30 → mRow h m c b N l → mRow h1 m c b N l := fun hb R => ⟨(i _).trans R.1, R.2.1, fun k hk => (a _ hb _).trans (R.2.2 k hk)⟩
  obtain ⟨q1, q2, q3, q4, q5, q6, q7, q8, q9⟩ := M
  refine ⟨p.msh hr q1, ?_, row (by decide) q3, row (by decide) q4, row (by decide) q5, row (by decide) q6, ⟨ls q7.1, fun k hk => ls (q7.2 k hk)⟩, ⟨(i _).trans q8.1, (i _).trans q8.2.1, (i _).trans q8.2.2⟩, ⟨(i _).trans q9.1, (i _).trans q9.2.1, (i _).trans q9.2.2⟩⟩
  refine ⟨(i _).trans q2.1, (i _).trans q2.2.1, fun k h0 hk => ?_, fun k h0 hk => ?_, fun k hk => (a 22 (by decide) _).trans (q2.2.2.2.2.1 k hk), (i _).trans q2.2.2.2.2.2⟩
  · rw [a 2 (by decide), a 3 (by decide), a 4 (by decide), a 5 (by decide), a 6 (by decide)]
    exact q2.2.2.1 k h0 hk
  · rw [a 7 (by decide), a 8 (by decide), a 9 (by decide), a 10 (by decide)]
    exact q2.2.2.2.1 k h0 hk
end UF
