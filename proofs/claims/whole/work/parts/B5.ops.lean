/-! THE SETTINGS OF THE FIELDS -/
section OP
variable {d : Nat} {h : jH} {Q : jO → jH → Prop} {m : Nat}
theorem opH_K {o : jOp} (hm : hK h m = 9) (h10 : m < hS h) : hK (opH h m o) m = 9 ∧ m < hS (opH h m o) := by
  unfold opH
  split
  · exact ⟨hm, h10⟩
  · obtain ⟨i1, i2, i3, i4, i5, i6, i7⟩ := iniH_K (hS h) o.2.2.2.2 0 (sN h o.1 o.2.2.2.1 o.2.2.2.1.toNat)
    refine ⟨?_, ?_⟩
    · rw [hK_sR, i1, hK_sN, if_neg (by omega)]; exact hm
    · rw [hS_sR, i3, hS_sN]; omega
theorem wp_ops : ∀ (ops : List jOp) (p : Nat) (h : jH), (∀ o ∈ ops, opK o = true ∧ opL o) → hK h m = 9 → m < hS h → dBs cX11_init p (opsB ops) → jWp d mX11_init (p + (opsB ops).length) [(0, jR m)] [] (opsH h m ops) Q → jWp d mX11_init p [(0, jR m)] [] h Q
  | [], p, h => fun _ _ _ _ k => k
  | o :: t, p, h => fun hk hm h10 hb k => by
    obtain ⟨b1, b2⟩ := dBs_app hb
    have ho := hk o (List.mem_cons_self ..)
    have hs := opH_K (o := o) hm h10
    refine wp_op ho.1 ho.2 hm h10 b1 (wp_ops t _ _ (fun q hq => hk q (List.mem_cons_of_mem _ hq)) hs.1 hs.2 b2 ?_)
    have e : p + (opsB (o :: t)).length = p + (opB o).length + (opsB t).length := by
      show p + (opB o ++ opsB t).length = _
      rw [List.length_append]; omega
    rw [e] at k
    exact k
def vI (t : List Int) (j : Int) : Int := if 0 ≤ j ∧ j < t.length then t.getD j.toNat 0 else 0
theorem iniH_A (a : Nat) : ∀ (t : List Int) (i : Nat) (h : jH), (∀ b, b ≠ a → ∀ j, hA (iniH h a i t) b j = hA h b j) ∧ ∀ j : Int, hA (iniH h a i t) a j = if (i : Int) ≤ j ∧ j < i + t.length then t.getD (j - i).toNat 0 else hA h a j
  | [], i, h => ⟨fun _ _ _ => .refl _, fun j => by rw [if_neg (by simp)]; rfl⟩
  | v :: t, i, h => by
    have ih := iniH_A a t (i + 1) (sA h a i v)
    refine ⟨fun b hb j => ?_, fun j => ?_⟩
    · rw [show iniH h a i (v :: t) = iniH (sA h a i v) a (i + 1) t from .refl _, ih.1 b hb, hA_sA, if_neg (fun e => hb e.1)]
    · rw [show iniH h a i (v :: t) = iniH (sA h a i v) a (i + 1) t from .refl _, ih.2, hA_sA, List.length_cons]
      by_cases c : j = i
      · subst c
        rw [if_neg (by omega), if_pos ⟨rfl, rfl⟩, if_pos (by omega), show ((i : Int) - (i : Int)).toNat = 0 by omega]
        rfl
      · by_cases c2 : ((i + 1 : Nat) : Int) ≤ j ∧ j < ((i + 1 : Nat) : Int) + t.length
        · rw [if_pos c2, if_pos (by omega), show (j - (i : Int)).toNat = (j - ((i + 1 : Nat) : Int)).toNat + 1 by omega]
          rfl
        · rw [if_neg c2, if_neg (by omega), if_neg (by omega)]
def opN (o : jOp) : Nat := if o.1 = 0 then 0 else 1
def opT (o : jOp) : Nat := if o.1 = 0 then 0 else o.2.2.2.1.toNat
def cntO : List jOp → Nat
  | [] => 0
  | o :: t => opN o + cntO t
def sltO : List jOp → Nat
  | [] => 0
  | o :: t => opT o + sltO t
def chk (h : jH) (m : Nat) : Nat → List jOp → Prop
  | _, [] => True
  | a, o :: t => (if o.1 = 0 then hI h (800 + o.2.1) m = o.2.2.2.1 else ((hR h (800 + o.2.1) m = m + a ∧ hK h (m + a) = o.1 ∧ hN h (m + a) = o.2.2.2.1) ∧ ∀ i, hA h (m + a) i = vI o.2.2.2.2 i)) ∧ chk h m (a + opN o) t
/-- one setting -/
theorem op_spec {a : Nat} {o : jOp} (hs : hS h = m + a) (h1 : 1 ≤ a) (hm : hK h m = 9) : hS (opH h m o) = m + a + opN o ∧ hT (opH h m o) = hT h + opT o ∧ uFr 0 m h (opH h m o) ∧ uFr (m + 1) (m + a) h (opH h m o) ∧ hK (opH h m o) m = 9 ∧ (∀ f, f ≠ 800 + o.2.1 → hI (opH h m o) f m = hI h f m ∧ hR (opH h m o) f m = hR h f m) ∧ (if o.1 = 0 then hI (opH h m o) (800 + o.2.1) m = o.2.2.2.1 else ((hR (opH h m o) (800 + o.2.1) m = m + a ∧ hK (opH h m o) (m + a) = o.1 ∧ hN (opH h m o) (m + a) = o.2.2.2.1) ∧ ∀ i, hA (opH h m o) (m + a) i = vI o.2.2.2.2 i)) := by
  unfold opH opN opT
  by_cases c : o.1 = 0
  · simp only [if_pos c]
    refine ⟨by rw [hS_sI]; omega, rfl, uFr.rfl.sI (.inr (Nat.le_refl _)), uFr.rfl.sI (.inl (by omega)), hm, fun f hf => ⟨?_, rfl⟩, ?_⟩
    · rw [hI_sI, if_neg (fun e => hf e.1)]
    · rw [hI_sI, if_pos ⟨rfl, rfl⟩]
  · simp only [if_neg c]
    obtain ⟨i1, i2, i3, i4, i5, i6, i7⟩ := iniH_K (hS h) o.2.2.2.2 0 (sN h o.1 o.2.2.2.1 o.2.2.2.1.toNat)
    have i8 := iniH_A (hS h) o.2.2.2.2 0 (sN h o.1 o.2.2.2.1 o.2.2.2.1.toNat)
    have u : uFr 0 (m + a) h (iniH (sN h o.1 o.2.2.2.1 o.2.2.2.1.toNat) (hS h) 0 o.2.2.2.2) := fun q hq => by
      refine ⟨fun f => ⟨?_, ?_⟩, fun i => ⟨?_, ?_⟩, ?_, ?_⟩
      · rw [i5, hI_sN, if_neg (by omega)]
      · rw [i6, hR_sN, if_neg (by omega)]
      · rw [i8.1 q (by omega), hA_sN, if_neg (by omega)]
      · rw [i7, hQ_sN, if_neg (by omega)]
      · rw [i1, hK_sN, if_neg (by omega)]
      · rw [i2, hN_sN, if_neg (by omega)]
    refine ⟨?_, ?_, (u.mono (Nat.le_refl _) (by omega)).sR (.inr (Nat.le_refl _)), (u.mono (by omega) (Nat.le_refl _)).sR (.inl (by omega)), ?_, fun f hf => ⟨?_, ?_⟩, ⟨?_, ?_, ?_⟩, fun i => ?_⟩
    · rw [hS_sR, i3, hS_sN]; omega
    · rw [hT_sR, i4, hT_sN]
    · rw [hK_sR, u.k (by omega)]; exact hm
    · rw [hI_sR]; exact u.i (by omega) f
    · rw [hR_sR, if_neg (fun e => hf e.1)]; exact u.r (by omega) f
    · rw [hR_sR, if_pos ⟨rfl, rfl⟩]; exact hs
    · rw [hK_sR, i1, hK_sN, if_pos hs.symm]
    · show hN (iniH (sN h o.1 o.2.2.2.1 o.2.2.2.1.toNat) (hS h) 0 o.2.2.2.2) (m + a) = _
      rw [i2, hN_sN, if_pos hs.symm]
    · rw [hA_sR, ← hs, i8.2, hA_sN, if_pos rfl]
      unfold vI
      simp only [Int.sub_zero, Int.natCast_zero, Int.zero_add, Int.ofNat_zero]
theorem ops_spec : ∀ (ops : List jOp) (h : jH) (a : Nat), hS h = m + a → 1 ≤ a → hK h m = 9 → (ops.map (fun o => o.2.1)).Nodup → hS (opsH h m ops) = m + a + cntO ops ∧ hT (opsH h m ops) = hT h + sltO ops ∧ uFr 0 m h (opsH h m ops) ∧ uFr (m + 1) (m + a) h (opsH h m ops) ∧ hK (opsH h m ops) m = 9 ∧ (∀ f, (∀ o ∈ ops, f ≠ 800 + o.2.1) → hI (opsH h m ops) f m = hI h f m ∧ hR (opsH h m ops) f m = hR h f m) ∧ chk (opsH h m ops) m a ops
  | [], h, a => fun hs _ hm _ => ⟨hs, rfl, uFr.rfl, uFr.rfl, hm, fun _ _ => ⟨rfl, rfl⟩, trivial⟩
  | o :: t, h, a => fun hs h1 hm nd => by
    obtain ⟨p1, p2, p3, p4, p5, p6, p7⟩ := op_spec (o := o) hs h1 hm
    rw [List.map_cons, List.nodup_cons] at nd
    obtain ⟨q1, q2, q3, q4, q5, q6, q7⟩ := ops_spec t (opH h m o) (a + opN o) (by omega) (by omega) p5 nd.2
    have nf : ∀ q ∈ t, 800 + o.2.1 ≠ 800 + q.2.1 := fun q hq e => nd.1 (List.mem_map.mpr ⟨q, hq, by omega⟩)
    show hS (opsH (opH h m o) m t) = _ ∧ hT (opsH (opH h m o) m t) = _ ∧ uFr 0 m h (opsH (opH h m o) m t) ∧ uFr (m + 1) (m + a) h (opsH (opH h m o) m t) ∧ hK (opsH (opH h m o) m t) m = 9 ∧ (∀ f, (∀ q ∈ o :: t, f ≠ 800 + q.2.1) → hI (opsH (opH h m o) m t) f m = hI h f m ∧ hR (opsH (opH h m o) m t) f m = hR h f m) ∧ _ ∧ chk (opsH (opH h m o) m t) m (a + opN o) t
    refine ⟨?_, ?_, p3.trans q3, p4.trans (q4.mono (Nat.le_refl _) (by omega)), q5, fun f hf => ?_, ?_, q7⟩
    · rw [q1]; show _ = m + a + (opN o + cntO t); omega
    · rw [q2, p2]; show _ = hT h + (opT o + sltO t); omega
    · have e1 := q6 f (fun q hq => hf q (List.mem_cons_of_mem _ hq))
      have e2 := p6 f (hf o (List.mem_cons_self ..))
      exact ⟨e1.1.trans e2.1, e1.2.trans e2.2⟩
    · have e1 := q6 (800 + o.2.1) nf
      by_cases c : o.1 = 0
      · rw [if_pos c] at p7 ⊢
        exact e1.1.trans p7
      · rw [if_neg c] at p7 ⊢
        have on : opN o = 1 := if_neg c
        have w : uFr (m + 1) (m + (a + 1)) (opH h m o) (opsH (opH h m o) m t) := q4.mono (Nat.le_refl _) (by omega)
        exact ⟨⟨e1.2.trans p7.1.1, (w.k (by omega)).trans p7.1.2.1, (w.len (by omega)).trans p7.1.2.2⟩, fun i => (w.a (by omega) i).trans (p7.2 i)⟩
end OP
