/-! THE WORLD AT THE START: the tables -/
def lwN : List Cond := flatC (Jvm.Cond.and given_1 narrow_1)
theorem lw_wd {args : Array Value} {s : State} (h : (Jvm.Cond.and given_1 narrow_1).before args s = true) : ∀ w ∈ lwN, w.before args s = true := flat_of_before _ h
def elsOK (tm : Term) : Nat → List Int → List Cond → Bool
  | j, v :: vs, w :: ws => decide (w = Cond.eq (.elem tm (.int (Int32.ofNat j))) (.int (Int32.ofInt v))) && elsOK tm (j + 1) vs ws
  | _, [], _ => true
  | _, _ :: _, [] => false
theorem elsOK_at {tm : Term} : ∀ (vs : List Int) (j : Nat) (ws : List Cond), elsOK tm j vs ws = true → ∀ k : Nat, k < vs.length → Cond.eq (.elem tm (.int (Int32.ofNat (j + k)))) (.int (Int32.ofInt (vs.getD k 0))) ∈ ws
  | [], j, ws => fun _ k hk => absurd hk (by simp)
  | v :: vs, j, [] => fun h => by simp [elsOK] at h
  | v :: vs, j, w :: ws => fun h k hk => by
    unfold elsOK at h
    rw [Bool.and_eq_true] at h
    have e := of_decide_eq_true h.1
    match k, hk with
    | 0, _ => rw [e]; exact List.mem_cons_self ..
    | k + 1, hk =>
      have := elsOK_at vs (j + 1) ws h.2 k (by simpa using hk)
      rw [show j + 1 + k = j + (k + 1) by omega] at this
      exact List.mem_cons_of_mem _ this
theorem wid_els : elsOK (.static RX1 "WIDTHS" "[I") 0 jWID (lwN.drop 7) = true := by decide +kernel
