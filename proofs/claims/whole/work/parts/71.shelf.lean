/-! THE PRESS: elements and shelves -/
section U7
variable {d x : Nat} {h : jH} {Q : jO → jH → Prop} {s : jP}
theorem u_shelfAt {i : Int} (H : isLP h x s) (k0 : (i < 0 ∨ 8 ≤ i) → Q (.inr "java/lang/IndexOutOfBoundsException") (sN h 16 0 6)) (k1 : 0 ≤ i → i < 8 → Q (.inl (some (jR (x + 138 + 63 * i.toNat)))) h) : jCall (d + 6) mX10_shelfAt [jR x, jI i] h Q := by
  have A := H.2.2.2.2.2.2.2.2.2.1
  refine bX10_shelfAt (fun _ _ => ⟨fun z => k0 (by omega), fun z => ⟨fun z2 => ⟨H.1.1, ?_⟩, fun z2 => k0 (by omega)⟩⟩)
  rw [H.1.2.2.2.2.2.2.2.2.1, A.2.1]
  refine ⟨A.1, by omega, by omega, ?_⟩
  have := A.2.2 i.toNat (by omega)
  rw [Int.toNat_of_nonneg (by omega)] at this
  rw [this]
  exact k1 (by omega) (by omega)
end U7
