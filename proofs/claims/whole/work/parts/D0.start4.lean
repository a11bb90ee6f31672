/-! THE WORLD AT THE START: classes -/
section SK
variable {args : Array Value} {s : State}
def inT (ws : List Cond) : Bool := ws.all (fun w => decide (w ∈ tables_1))
theorem inT_mem {ws : List Cond} (h : inT ws = true) : ∀ w ∈ ws, w ∈ lw_tbl := fun w hw => List.mem_append_right _ (of_decide_eq_true (List.all_eq_true.mp h w hw))
theorem in0 : inT (u_ws RX0 TX0 9) = true := by decide +kernel
theorem in1 : inT (u_ws RX1 TX1 2) = true := by decide +kernel
theorem in2 : inT (u_ws RX4 TX4 6) = true := by decide +kernel
theorem in3 : inT (u_ws RX5 TX5 3) = true := by decide +kernel
theorem in4 : inT (u_ws RX6 TX6 3) = true := by decide +kernel
theorem in5 : inT (u_ws RX7 TX7 2) = true := by decide +kernel
theorem in6 : inT (u_ws RX9 TX9 8) = true := by decide +kernel
theorem in7 : inT (u_ws RX10 TX10 18) = true := by decide +kernel
theorem in8 : inT (u_ws RX11 TX11 52) = true := by decide +kernel
theorem lw_kn (hts : ∀ w ∈ lw_tbl, w.before args s = true) : ∃ D : va_G, ∀ (c : Nat) (q : vw_C), vwCl[c]? = some q → u_Kn s q.1 q.2.1 q.2.2 (D.1 c) (D.2 c) := by
  have i : ∀ {w : Cond}, w ∈ jW → w.before args s = true := fun h => hts _ (jW_tbl h)
  obtain ⟨c0, f0, h0⟩ := u_known hts (inT_mem in0) (i iX0)
  obtain ⟨c1, f1, h1⟩ := u_known hts (inT_mem in1) (i iX1)
  obtain ⟨c2, f2, h2⟩ := u_known hts (inT_mem in2) (i iX4)
  obtain ⟨c3, f3, h3⟩ := u_known hts (inT_mem in3) (i iX5)
  obtain ⟨c4, f4, h4⟩ := u_known hts (inT_mem in4) (i iX6)
  obtain ⟨c5, f5, h5⟩ := u_known hts (inT_mem in5) (i iX7)
  obtain ⟨c6, f6, h6⟩ := u_known hts (inT_mem in6) (i iX9)
  obtain ⟨c7, f7, h7⟩ := u_known hts (inT_mem in7) (i iX10)
  obtain ⟨c8, f8, h8⟩ := u_known hts (inT_mem in8) (i iX11)
  refine ⟨(fun k => [c0, c1, c2, c3, c4, c5, c6, c7, c8].getD k c0, fun k => [f0, f1, f2, f3, f4, f5, f6, f7, f8].getD k f0), fun c q hq => ?_⟩
  match c, hq with
  | 0, hq => cases hq; exact h0
  | 1, hq => cases hq; exact h1
  | 2, hq => cases hq; exact h2
  | 3, hq => cases hq; exact h3
  | 4, hq => cases hq; exact h4
  | 5, hq => cases hq; exact h5
  | 6, hq => cases hq; exact h6
  | 7, hq => cases hq; exact h7
  | 8, hq => cases hq; exact h8
  | k + 9, hq => simp at hq
end SK
