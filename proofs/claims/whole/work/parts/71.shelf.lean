/-! THE PRESS: elements and shelves -/
section U7
variable {d x : Nat} {h : jH} {Q : jO → jH → Prop} {s : jP}
theorem u_shelfAt {i : Int} (H : isLP h x s) (k0 : (i < 0 ∨ 8 ≤ i) → Q (.inr "java/lang/IndexOutOfBoundsException") (sN h 16 0 6)) (k1 : 0 ≤ i → i < 8 → Q (.inl (some (jR (x + 138 + 63 * i.toNat)))) h) : jCall (d + 6) mX10_shelfAt [jR x, jI i] h Q := by
  have A := H.2.2.2.2.2.2.2.2.2.1
  refine bX10_shelfAt (fun _ _ => ⟨fun z => k0 (by omega), fun z => ⟨fun z2 => ⟨H.1.1, ?_⟩, fun z2 => k0 (by omega)⟩⟩)
  rw [H.1.2.2.2.2.2.2.2.2.1, A.2.1]
  refine ⟨A.1, by omega, by omega, ?_⟩
  have := A.2.2 i.toNat (by omega)
  rw [Int.toNat_of_nonneg (by omega)] at this
  rw [this]
  exact k1 (by omega) (by omega)
theorem u_elementAt {i : Int} (H : isLP h x s) (k0 : (i < 0 ∨ s.2.1.1.length ≤ i) → Q (.inr "java/lang/IndexOutOfBoundsException") (sN h 16 0 6)) (k1 : 0 ≤ i → i < s.2.1.1.length → Q (.inl (some (jR (elV h (x + 11) i.toNat)))) h) : jCall (d + 6) mX10_elementAt [jR x, jI i] h Q := by
  have L := H.2.2.2.2.2.2.2.1
  refine bX10_elementAt (fun _ _ => ⟨H.1.1, ?_⟩)
  rw [H.1.2.2.2.2.2.2.1]
  refine ⟨L.1.1, s6_at L (fun z => ⟨_, rfl, fun w => absurd rfl w, fun _ => k0 z⟩) (fun z z2 => ⟨_, rfl, fun _ => k1 z z2, fun w => ?_⟩)⟩
  have l20 := L.2.2.1
  have := L.1.rg (k := i.toNat) (by omega)
  omega
end U7
