/-! THE REFERENCE, MADE -/
section RM
variable {code : ByteArray} {p a b c : Nat}
theorem dec_isp (h : dBy code p 183) (h2 : dBy code (p + 1) a) (h3 : dBy code (p + 2) b) : ClassFile.decode code p = .ok (.invokespecial (a * 256 + b), 3) := dec_3 ((bind_at (u1_at h)).trans ((bind_at (u2_at h2 h3)).trans rfl))
theorem dec_ivi (h : dBy code p 182) (h2 : dBy code (p + 1) a) (h3 : dBy code (p + 2) b) : ClassFile.decode code p = .ok (.invokevirtual (a * 256 + b), 3) := dec_3 ((bind_at (u1_at h)).trans ((bind_at (u2_at h2 h3)).trans rfl))
theorem dec_ist (h : dBy code p 184) (h2 : dBy code (p + 1) a) (h3 : dBy code (p + 2) b) : ClassFile.decode code p = .ok (.invokestatic (a * 256 + b), 3) := dec_3 ((bind_at (u1_at h)).trans ((bind_at (u2_at h2 h3)).trans rfl))
theorem dec_gef (h : dBy code p 180) (h2 : dBy code (p + 1) a) (h3 : dBy code (p + 2) b) : ClassFile.decode code p = .ok (.getfield (a * 256 + b), 3) := dec_3 ((bind_at (u1_at h)).trans ((bind_at (u2_at h2 h3)).trans rfl))
theorem dec_lcw (h : dBy code p 19) (h2 : dBy code (p + 1) a) (h3 : dBy code (p + 2) b) : ClassFile.decode code p = .ok (.ldc_w (a * 256 + b), 3) := dec_3 ((bind_at (u1_at h)).trans ((bind_at (u2_at h2 h3)).trans rfl))
theorem dec_icg (h : dBy code p 162) (h2 : dBy code (p + 1) a) (h3 : dBy code (p + 2) b) : ClassFile.decode code p = .ok (.if_icmp .ge (ClassFile.Reader.signed 16 (a * 256 + b)), 3) := dec_3 ((bind_at (u1_at h)).trans ((bind_at (s2_at h2 h3)).trans rfl))
theorem dec_goto (h : dBy code p 167) (h2 : dBy code (p + 1) a) (h3 : dBy code (p + 2) b) : ClassFile.decode code p = .ok (.goto (ClassFile.Reader.signed 16 (a * 256 + b)), 3) := dec_3 ((bind_at (u1_at h)).trans ((bind_at (s2_at h2 h3)).trans rfl))
theorem dec_iin (h : dBy code p 132) (h2 : dBy code (p + 1) a) (h3 : dBy code (p + 2) b) : ClassFile.decode code p = .ok (.iinc a (ClassFile.Reader.signed 8 b), 3) := dec_3 ((bind_at (u1_at h)).trans ((bind_at (u1_at h2)).trans ((bind_at (s1_at h3)).trans rfl)))
theorem dec_ret (h : dBy code p 177) : ClassFile.decode code p = .ok (.return_, 1) := dec_1 ((bind_at (u1_at h)).trans rfl)
theorem dec_il1 (h : dBy code p 27) : ClassFile.decode code p = .ok (.iload_n 1, 1) := dec_1 ((bind_at (u1_at h)).trans rfl)
theorem dec_is1 (h : dBy code p 60) : ClassFile.decode code p = .ok (.istore_n 1, 1) := dec_1 ((bind_at (u1_at h)).trans rfl)
theorem dec_ial (h : dBy code p 46) : ClassFile.decode code p = .ok (.iaload, 1) := dec_1 ((bind_at (u1_at h)).trans rfl)
end RM
theorem zAt (k : Nat) {b : Nat} (e : iniZ[k]? = some b) : dBy cX11_init (5027 + k) b := ini_bs4.2.at k e
section RI
variable {d : Nat} {Q : jO → jH → Prop} {m : Nat}
theorem jWID_len : jWID.length = 106 := jS_l1
/-- the shapes, being filled -/
theorem n_shape_loop {g : jH} (n : Nat) : ∀ (i : Nat) (h : jH), i + n = 106 → mSh h m → mFr m [] [22] g h → (∀ j : Int, hA h (m + 21) j = vI jWID j) → (∀ j : Nat, j < i → hA h (m + 22) (j : Int) = patL.getD j 0) → (∀ h', mFr m [] [22] g h' → mSh h' m → (∀ j : Nat, j < 106 → hA h' (m + 22) (j : Int) = patL.getD j 0) → jWp (d + 1) mX11_init 5062 [(0, jR m), (1, jI 106)] [] h' Q) → jWp (d + 1) mX11_init 5033 [(0, jR m), (1, jI i)] [] h Q := by
  induction n with
  | zero =>
    intro i h hi S f W T k
    obtain rfl : i = 106 := by omega
    refine wp_iload_n (y := mX11_init) 1 (dec_il1 (zAt 6 rfl)) rfl (wp_bipush (y := mX11_init) (n := 106) (dec_bip (zAt 7 rfl) (zAt 8 rfl)) ⟨by decide, by decide⟩ (wp_icmp_ge (y := mX11_init) 5062 (dec_icg (zAt 9 rfl) (zAt 10 rfl) (zAt 11 rfl)) (by decide) (fun _ => ?_) (fun z => absurd (by omega) z)))
    exact k h f S T
  | succ n ih =>
    intro i h hi S f W T k
    have l106 := jWID_len
    refine wp_iload_n (y := mX11_init) 1 (dec_il1 (zAt 6 rfl)) rfl (wp_bipush (y := mX11_init) (n := 106) (dec_bip (zAt 7 rfl) (zAt 8 rfl)) ⟨by decide, by decide⟩ (wp_icmp_ge (y := mX11_init) 5062 (dec_icg (zAt 9 rfl) (zAt 10 rfl) (zAt 11 rfl)) (by decide) (fun z => absurd z (by omega)) (fun _ => ?_)))
    refine wp_aload_n (y := mX11_init) 0 (dec_al0 (zAt 12 rfl)) rfl ?_
    refine wp_getR (y := mX11_init) (ci := 8) (j := 35) rfl (by decide) gX11_225 (dec_gef (zAt 13 rfl) (zAt 14 rfl) (zAt 15 rfl)) S.k rfl ?_
    refine wp_iload_n (y := mX11_init) 1 (dec_il1 (zAt 16 rfl)) rfl ?_
    refine wp_aload_n (y := mX11_init) 0 (dec_al0 (zAt 17 rfl)) rfl ?_
    refine wp_getR (y := mX11_init) (ci := 8) (j := 34) rfl (by decide) gX11_222 (dec_gef (zAt 18 rfl) (zAt 19 rfl) (zAt 20 rfl)) S.k rfl ?_
    refine wp_iload_n (y := mX11_init) 1 (dec_il1 (zAt 21 rfl)) rfl ?_
    have r34 : hR h (100 * 8 + 34) m = m + 21 := S.r834
    have r35 : hR h (100 * 8 + 35) m = m + 22 := S.r835
    rw [r34, r35]
    refine wp_iaload (y := mX11_init) (dec_ial (zAt 22 rfl)) S.k834 (by omega) (by rw [S.n834]; omega) (fun _ => ?_)
    refine wp_bipush (y := mX11_init) (n := 6) (dec_bip (zAt 23 rfl) (zAt 24 rfl)) ⟨by decide, by decide⟩ ?_
    refine wp_callS (y := mX11_init) (y' := mX11_shaped) (st := [jI i, jR (m + 22)]) [jI (hA h (m + 21) i), jI 6] rfl fX11_shaped kX11_276 nX11_shaped (dec_ist (zAt 25 rfl) (zAt 26 rfl) (zAt 27 rfl)) (Nat.le_of_ble_eq_true rfl) ?_
    have wv : hA h (m + 21) i = jWID.getD i 0 := by
      rw [W]; unfold vI; rw [if_pos (by omega), Int.toNat_natCast]
    have wm : jWID.getD i 0 ∈ jWID := by
      rw [List.getD_eq_getElem?_getD, List.getElem?_eq_getElem (by omega)]
      exact List.getElem_mem _
    have wo := wid_ok _ wm
    have pe : patL.getD i 0 = patV (jWID.getD i 0) 6 := by
      show (jWID.map (fun w => patV w 6)).getD i 0 = patV (jWID.getD i 0) 6
      rw [List.getD_eq_getElem?_getD, List.getD_eq_getElem?_getD, List.getElem?_map, List.getElem?_eq_getElem (by omega)]
      rfl
    rw [wv]
    refine n_shaped (d := d) (N := 6) (by decide) (by decide) wo.1 wo.2 ?_
    show jWp (d + 1) mX11_init 5055 [(0, jR m), (1, jI i)] [jI (patV (jWID.getD i 0) 6), jI i, jR (m + 22)] h Q
    rw [← pe]
    refine wp_iastore (y := mX11_init) (dec_ias (zAt 28 rfl)) S.k835 (by omega) (by rw [S.n835]; omega) ?_
    refine wp_iinc (y := mX11_init) (x := (i : Int)) (n := 1) 1 [1, 0] (ls' := [(0, jR m), (1, jI ((i : Int) + 1))]) (dec_iin (zAt 29 rfl) (zAt 30 rfl) (zAt 31 rfl)) rfl ⟨by omega, by omega⟩ ⟨by decide, by decide⟩ (by decide) rfl ?_
    refine wp_goto (y := mX11_init) 5033 (dec_goto (zAt 32 rfl) (zAt 33 rfl) (zAt 34 rfl)) (by decide) ?_
    have f2 : mFr m [] [22] h (sA h (m + 22) (i : Int) (patL.getD i 0)) := mFr.rfl.sA (by decide)
    have := ih (i + 1) (sA h (m + 22) (i : Int) (patL.getD i 0)) (by omega) (f2.sh S) (f.trans f2) (fun j => (f2.a (by decide) j).trans (W j)) (fun j hj => ?_) k
    · rw [show ((i + 1 : Nat) : Int) = (i : Int) + 1 by omega] at this
      exact this
    · rw [hA_sA]
      split
      · rename_i z; rw [show j = i by omega]
      · exact T j (by omega)
theorem n_stop {h : jH} {Q : jO → jH → Prop} (S : mSh h m) (k : Q (.inl none) (sI h 836 m patS)) : jWp (d + 1) mX11_init 5062 [(0, jR m), (1, jI 106)] [] h Q := by
  refine wp_aload_n (y := mX11_init) 0 (dec_al0 (zAt 35 rfl)) rfl ?_
  refine wp_ldc_w (y := mX11_init) (dec_lcw (zAt 36 rfl) (zAt 37 rfl) (zAt 38 rfl)) eX11_280 rfl ⟨by decide, by decide⟩ ?_
  refine wp_bipush (y := mX11_init) (n := 7) (dec_bip (zAt 39 rfl) (zAt 40 rfl)) ⟨by decide, by decide⟩ ?_
  refine wp_callS (y := mX11_init) (y' := mX11_shaped) (st := [jR m]) [jI 2331112, jI 7] rfl fX11_shaped kX11_276 nX11_shaped (dec_ist (zAt 41 rfl) (zAt 42 rfl) (zAt 43 rfl)) (Nat.le_of_ble_eq_true rfl) ?_
  refine n_shaped (d := d) (N := 7) (w := 2331112) (by decide) (by decide) (by decide) (by decide +kernel) ?_
  show jWp (d + 1) mX11_init 5071 [(0, jR m), (1, jI 106)] [jI patS, jR m] h Q
  refine wp_putI (y := mX11_init) (ci := 8) (j := 36) rfl (by decide) gX11_281 (dec_putf (zAt 44 rfl) (zAt 45 rfl) (zAt 46 rfl)) S.k (.inr ⟨rfl, rfl, rfl⟩) rfl ?_
  exact wp_return (y := mX11_init) (dec_ret (zAt 47 rfl)) rfl k
end RI
