/-! THE REFERENCE, MADE: shapes, links -/
section SH
variable {d : Nat} {h : jH} {Q : jO → jH → Prop}
theorem n_sh_42 {w u : Int} {N i : Nat} (hi : i < 100) (hu : 1 ≤ u ∧ u < 2147483648) (n : Nat) : ∀ (c : Nat) (a : Int) (m : Nat), m + n ≤ 30 → c + n ≤ 9 → 0 ≤ a → a < ((2 ^ m : Nat) : Int) → jWp d mX11_shaped 25 [(0, jI w), (1, jI N), (2, jI (u / 10)), (3, jI (repB2 n (if i % 2 = 0 then 1 else 0) a)), (4, jI ((i : Int) + 1))] [] h Q → jWp d mX11_shaped 42 [(0, jI w), (1, jI N), (2, jI u), (3, jI a), (4, jI i), (5, jI ((c : Int) + n)), (6, jI c)] [] h Q := by
  induction n with
  | zero =>
    intro c a m hm hc h0 h1 k
    refine bX11_shaped_42 (fun _ _ _ _ _ _ _ _ => ⟨fun _ => ⟨by omega, ⟨by omega, by omega⟩, k⟩, fun z => absurd (by omega) z⟩)
  | succ n ih =>
    intro c a m hm hc h0 h1 k
    have p30 := pow30 (m := m + 1) (by omega)
    rw [Nat.pow_succ] at p30
    refine bX11_shaped_42 (fun _ _ _ _ _ _ _ _ => ⟨fun z => absurd z (by omega), fun _ => ⟨⟨by omega, by omega⟩, by omega, fun o => ?_, fun o => ?_⟩⟩)
    · rw [if_neg (by omega)] at k ih
      have := ih (c + 1) (a * 2 + 0) (m + 1) (by omega) (by omega) (by omega) (by rw [Nat.pow_succ]; omega) k
      rw [show ((c + 1 : Nat) : Int) + n = (c : Int) + ((n + 1 : Nat) : Int) by omega, show ((c + 1 : Nat) : Int) = (c : Int) + 1 by omega, show a * 2 + 0 = 2 * a + 0 by omega] at this
      exact ⟨⟨by omega, by omega⟩, ⟨by omega, by omega⟩, this⟩
    · rw [if_pos (by omega)] at k ih
      have := ih (c + 1) (a * 2 + 1) (m + 1) (by omega) (by omega) (by omega) (by rw [Nat.pow_succ]; omega) k
      rw [show ((c + 1 : Nat) : Int) + n = (c : Int) + ((n + 1 : Nat) : Int) by omega, show ((c + 1 : Nat) : Int) = (c : Int) + 1 by omega, show a * 2 + 1 = 2 * a + 1 by omega] at this
      exact ⟨⟨by omega, by omega⟩, ⟨by omega, by omega⟩, this⟩
theorem pow9 : ∀ j : Nat, j ≤ 8 → 1 ≤ 10 ^ j ∧ 10 ^ j ≤ 100000000 := fun j hj => ⟨Nat.one_le_pow _ _ (by decide), Nat.pow_le_pow_right (by decide) hj⟩
theorem n_sh_25 {w : Int} {N : Nat} (hN : N ≤ 9) (hw : 0 ≤ w ∧ w < 2147483648) (n : Nat) : ∀ (i : Nat) (u a : Int) (m : Nat), i + n = N → (1 ≤ n → u = ((10 ^ (n - 1) : Nat) : Int)) → m + sumD w n u ≤ 30 → 0 ≤ a → a < ((2 ^ m : Nat) : Int) → Q (.inl (some (jI (patF w n i u a)))) h → jWp d mX11_shaped 25 [(0, jI w), (1, jI N), (2, jI u), (3, jI a), (4, jI i)] [] h Q := by
  induction n with
  | zero =>
    intro i u a m hi hu hm h0 h1 k
    exact bX11_shaped_25 (fun _ _ _ _ _ _ => ⟨fun _ => k, fun z => absurd (by omega) z⟩)
  | succ n ih =>
    intro i u a m hi hu hm h0 h1 k
    have hu := hu (by omega)
    have pn := pow9 n (by omega)
    rw [show n + 1 - 1 = n by omega] at hu
    have wu : 0 ≤ w / u := Int.ediv_nonneg hw.1 (by omega)
    unfold sumD at hm
    refine bX11_shaped_25 (fun _ _ _ _ _ _ => ⟨fun z => absurd z (by omega), fun _ => ⟨hw.1, by omega, wu, ?_⟩⟩)
    have rr := repB2_rg (if i % 2 = 0 then 1 else 0) (by split <;> decide) (w / u % 10).toNat a m h0 h1
    have nx : jWp d mX11_shaped 25 [(0, jI w), (1, jI N), (2, jI (u / 10)), (3, jI (repB2 (w / u % 10).toNat (if i % 2 = 0 then 1 else 0) a)), (4, jI ((i : Int) + 1))] [] h Q := by
      have eu : n = 0 ∨ max (u / 10) 1 = u / 10 := by
        by_cases c : n = 0
        · exact .inl c
        · right
          obtain ⟨q, rfl⟩ : ∃ q, n = q + 1 := ⟨n - 1, by omega⟩
          have := pow9 q (by omega)
          rw [Nat.pow_succ] at hu
          omega
      refine ih (i + 1) (u / 10) (repB2 (w / u % 10).toNat (if i % 2 = 0 then 1 else 0) a) (m + (w / u % 10).toNat) (by omega) (fun c => ?_) ?_ rr.1 rr.2 ?_
      · obtain ⟨q, rfl⟩ : ∃ q, n = q + 1 := ⟨n - 1, by omega⟩
        rw [Nat.pow_succ] at hu
        rw [show q + 1 - 1 = q by omega]
        omega
      · rcases eu with e | e
        · subst e; unfold sumD; omega
        · rw [e] at hm; omega
      · rcases eu with e | e
        · subst e; exact k
        · unfold patF at k; rw [e] at k; exact k
    have := n_sh_42 (d := d) (w := w) (u := u) (N := N) (i := i) (h := h) (Q := Q) (by omega) ⟨by omega, by omega⟩ (w / u % 10).toNat 0 a m (by omega) (by omega) h0 h1 nx
    rw [show ((0 : Nat) : Int) + ((w / u % 10).toNat : Int) = w / u % 10 by omega] at this
    exact this
theorem n_sh_4 {w : Int} {N : Nat} (hN : N ≤ 9) (hw : 0 ≤ w ∧ w < 2147483648) (hs : sumD w N (((10 : Nat) ^ (N - 1) : Nat) : Int) ≤ 30) (k : Q (.inl (some (jI (patF w N 0 (((10 : Nat) ^ (N - 1) : Nat) : Int) 0)))) h) (n : Nat) : ∀ i : Nat, i + n = N → 1 ≤ i → jWp d mX11_shaped 4 [(0, jI w), (1, jI N), (2, jI (((10 : Nat) ^ (i - 1) : Nat) : Int)), (3, jI i)] [] h Q := by
  induction n with
  | zero =>
    intro i hi h1
    obtain rfl : i = N := by omega
    refine bX11_shaped_4 (fun _ _ _ _ _ => ⟨fun _ => ?_, fun z => absurd (by omega) z⟩)
    exact n_sh_25 hN hw i 0 _ 0 0 (by omega) (fun _ => rfl) (by omega) (by decide) (by decide) k
  | succ n ih =>
    intro i hi h1
    have b := pow9 (i - 1 + 1) (by omega)
    rw [Nat.pow_succ] at b
    refine bX11_shaped_4 (fun _ _ _ _ _ => ⟨fun z => absurd z (by omega), fun _ => ⟨⟨by omega, by omega⟩, ⟨by omega, by omega⟩, ?_⟩⟩)
    have := ih (i + 1) (by omega) (by omega)
    rw [show i + 1 - 1 = i - 1 + 1 by omega, Nat.pow_succ, show ((i + 1 : Nat) : Int) = (i : Int) + 1 by omega, show ((10 ^ (i - 1) * 10 : Nat) : Int) = ((10 ^ (i - 1) : Nat) : Int) * 10 by omega] at this
    exact this
theorem n_shaped {w : Int} {N : Nat} (h1 : 1 ≤ N) (hN : N ≤ 9) (hw : 0 ≤ w ∧ w < 2147483648) (hs : sumD w N (10 ^ (N - 1)) ≤ 30) (k : Q (.inl (some (jI (patV w N)))) h) : jCall d mX11_shaped [jI w, jI N] h Q := by
  have e : (((10 : Nat) ^ (N - 1) : Nat) : Int) = (10 : Int) ^ (N - 1) := by simp
  refine bX11_shaped (fun _ _ _ => ?_)
  exact n_sh_4 (d := d) hN hw (by rw [e]; exact hs) (by rw [e]; exact k) (N - 1) 1 (by omega) (by omega)
end SH
def allL : List jOp → Prop
  | [] => True
  | o :: t => opL o ∧ allL t
theorem allL_c {o : jOp} {t : List jOp} (a : opL o) (b : allL t) : allL (o :: t) := ⟨a, b⟩
theorem allL_mem : ∀ {l : List jOp}, allL l → ∀ o ∈ l, opL o
  | [], _, o, h => nomatch h
  | x :: t, a, o, h => by
    rcases List.mem_cons.mp h with e | e
    · rw [e]; exact a.1
    · exact allL_mem a.2 o e
theorem iniK : iniO.all opK = true := by decide +kernel
theorem rul_small : ∀ v ∈ jRUL, -32768 ≤ v ∧ v < 32768 := by decide +kernel
theorem wid_c : cOK 0 jWID := cOK_c (.inr ⟨eX11_116, by decide, by decide⟩) (cOK_c (.inr ⟨eX11_117, by decide, by decide⟩) (cOK_c (.inr ⟨eX11_118, by decide, by decide⟩) (cOK_c (.inr ⟨eX11_119, by decide, by decide⟩) (cOK_c (.inr ⟨eX11_120, by decide, by decide⟩) (cOK_c (.inr ⟨eX11_121, by decide, by decide⟩) (cOK_c (.inr ⟨eX11_122, by decide, by decide⟩) (cOK_c (.inr ⟨eX11_123, by decide, by decide⟩) (cOK_c (.inr ⟨eX11_124, by decide, by decide⟩) (cOK_c (.inr ⟨eX11_125, by decide, by decide⟩) (cOK_c (.inr ⟨eX11_126, by decide, by decide⟩) (cOK_c (.inr ⟨eX11_127, by decide, by decide⟩) (cOK_c (.inr ⟨eX11_128, by decide, by decide⟩) (cOK_c (.inr ⟨eX11_129, by decide, by decide⟩) (cOK_c (.inr ⟨eX11_130, by decide, by decide⟩) (cOK_c (.inr ⟨eX11_131, by decide, by decide⟩) (cOK_c (.inr ⟨eX11_132, by decide, by decide⟩) (cOK_c (.inr ⟨eX11_133, by decide, by decide⟩) (cOK_c (.inr ⟨eX11_134, by decide, by decide⟩) (cOK_c (.inr ⟨eX11_135, by decide, by decide⟩) (cOK_c (.inr ⟨eX11_136, by decide, by decide⟩) (cOK_c (.inr ⟨eX11_137, by decide, by decide⟩) (cOK_c (.inr ⟨eX11_138, by decide, by decide⟩) (cOK_c (.inr ⟨eX11_139, by decide, by decide⟩) (cOK_c (.inr ⟨eX11_140, by decide, by decide⟩) (cOK_c (.inr ⟨eX11_141, by decide, by decide⟩) (cOK_c (.inr ⟨eX11_142, by decide, by decide⟩) (cOK_c (.inr ⟨eX11_143, by decide, by decide⟩) (cOK_c (.inr ⟨eX11_144, by decide, by decide⟩) (cOK_c (.inr ⟨eX11_145, by decide, by decide⟩) (cOK_c (.inr ⟨eX11_146, by decide, by decide⟩) (cOK_c (.inr ⟨eX11_147, by decide, by decide⟩) (cOK_c (.inr ⟨eX11_148, by decide, by decide⟩) (cOK_c (.inr ⟨eX11_149, by decide, by decide⟩) (cOK_c (.inr ⟨eX11_150, by decide, by decide⟩) (cOK_c (.inr ⟨eX11_151, by decide, by decide⟩) (cOK_c (.inr ⟨eX11_152, by decide, by decide⟩) (cOK_c (.inr ⟨eX11_153, by decide, by decide⟩) (cOK_c (.inr ⟨eX11_154, by decide, by decide⟩) (cOK_c (.inr ⟨eX11_155, by decide, by decide⟩) (cOK_c (.inr ⟨eX11_156, by decide, by decide⟩) (cOK_c (.inr ⟨eX11_157, by decide, by decide⟩) (cOK_c (.inr ⟨eX11_158, by decide, by decide⟩) (cOK_c (.inr ⟨eX11_159, by decide, by decide⟩) (cOK_c (.inr ⟨eX11_160, by decide, by decide⟩) (cOK_c (.inr ⟨eX11_161, by decide, by decide⟩) (cOK_c (.inr ⟨eX11_162, by decide, by decide⟩) (cOK_c (.inr ⟨eX11_163, by decide, by decide⟩) (cOK_c (.inr ⟨eX11_164, by decide, by decide⟩) (cOK_c (.inr ⟨eX11_165, by decide, by decide⟩) (cOK_c (.inr ⟨eX11_166, by decide, by decide⟩) (cOK_c (.inr ⟨eX11_167, by decide, by decide⟩) (cOK_c (.inr ⟨eX11_168, by decide, by decide⟩) (cOK_c (.inr ⟨eX11_169, by decide, by decide⟩) (cOK_c (.inr ⟨eX11_170, by decide, by decide⟩) (cOK_c (.inr ⟨eX11_171, by decide, by decide⟩) (cOK_c (.inr ⟨eX11_172, by decide, by decide⟩) (cOK_c (.inr ⟨eX11_173, by decide, by decide⟩) (cOK_c (.inr ⟨eX11_174, by decide, by decide⟩) (cOK_c (.inr ⟨eX11_175, by decide, by decide⟩) (cOK_c (.inr ⟨eX11_176, by decide, by decide⟩) (cOK_c (.inr ⟨eX11_177, by decide, by decide⟩) (cOK_c (.inr ⟨eX11_178, by decide, by decide⟩) (cOK_c (.inr ⟨eX11_179, by decide, by decide⟩) (cOK_c (.inr ⟨eX11_180, by decide, by decide⟩) (cOK_c (.inr ⟨eX11_181, by decide, by decide⟩) (cOK_c (.inr ⟨eX11_182, by decide, by decide⟩) (cOK_c (.inr ⟨eX11_183, by decide, by decide⟩) (cOK_c (.inr ⟨eX11_184, by decide, by decide⟩) (cOK_c (.inr ⟨eX11_185, by decide, by decide⟩) (cOK_c (.inr ⟨eX11_186, by decide, by decide⟩) (cOK_c (.inr ⟨eX11_187, by decide, by decide⟩) (cOK_c (.inr ⟨eX11_188, by decide, by decide⟩) (cOK_c (.inr ⟨eX11_189, by decide, by decide⟩) (cOK_c (.inr ⟨eX11_190, by decide, by decide⟩) (cOK_c (.inr ⟨eX11_191, by decide, by decide⟩) (cOK_c (.inr ⟨eX11_192, by decide, by decide⟩) (cOK_c (.inr ⟨eX11_193, by decide, by decide⟩) (cOK_c (.inr ⟨eX11_194, by decide, by decide⟩) (cOK_c (.inr ⟨eX11_195, by decide, by decide⟩) (cOK_c (.inr ⟨eX11_196, by decide, by decide⟩) (cOK_c (.inr ⟨eX11_197, by decide, by decide⟩) (cOK_c (.inr ⟨eX11_198, by decide, by decide⟩) (cOK_c (.inr ⟨eX11_199, by decide, by decide⟩) (cOK_c (.inr ⟨eX11_200, by decide, by decide⟩) (cOK_c (.inr ⟨eX11_201, by decide, by decide⟩) (cOK_c (.inr ⟨eX11_202, by decide, by decide⟩) (cOK_c (.inr ⟨eX11_203, by decide, by decide⟩) (cOK_c (.inr ⟨eX11_204, by decide, by decide⟩) (cOK_c (.inr ⟨eX11_205, by decide, by decide⟩) (cOK_c (.inr ⟨eX11_206, by decide, by decide⟩) (cOK_c (.inr ⟨eX11_207, by decide, by decide⟩) (cOK_c (.inr ⟨eX11_208, by decide, by decide⟩) (cOK_c (.inr ⟨eX11_209, by decide, by decide⟩) (cOK_c (.inr ⟨eX11_210, by decide, by decide⟩) (cOK_c (.inr ⟨eX11_211, by decide, by decide⟩) (cOK_c (.inr ⟨eX11_212, by decide, by decide⟩) (cOK_c (.inr ⟨eX11_213, by decide, by decide⟩) (cOK_c (.inr ⟨eX11_214, by decide, by decide⟩) (cOK_c (.inr ⟨eX11_215, by decide, by decide⟩) (cOK_c (.inr ⟨eX11_216, by decide, by decide⟩) (cOK_c (.inr ⟨eX11_217, by decide, by decide⟩) (cOK_c (.inr ⟨eX11_218, by decide, by decide⟩) (cOK_c (.inr ⟨eX11_219, by decide, by decide⟩) (cOK_c (.inr ⟨eX11_220, by decide, by decide⟩) (cOK_c (.inr ⟨eX11_221, by decide, by decide⟩) trivial)))))))))))))))))))))))))))))))))))))))))))))))))))))))))))))))))))))))))))))))))))))))))))))))))))))))))
theorem iniL_ok : allL iniO := allL_c ⟨gX11_7, cOK_small _ _ rul_small⟩ (allL_c ⟨gX11_13, trivial⟩ (allL_c ⟨gX11_16, trivial⟩ (allL_c ⟨gX11_19, trivial⟩ (allL_c ⟨gX11_22, trivial⟩ (allL_c ⟨gX11_25, trivial⟩ (allL_c ⟨gX11_28, trivial⟩ (allL_c ⟨gX11_32, trivial⟩ (allL_c ⟨gX11_35, trivial⟩ (allL_c ⟨gX11_38, trivial⟩ (allL_c ⟨gX11_41, trivial⟩ (allL_c ⟨gX11_45, trivial⟩ (allL_c ⟨gX11_48, trivial⟩ (allL_c ⟨gX11_51, trivial⟩ (allL_c ⟨gX11_54, trivial⟩ (allL_c ⟨gX11_57, trivial⟩ (allL_c ⟨gX11_60, trivial⟩ (allL_c ⟨gX11_63, trivial⟩ (allL_c ⟨gX11_67, trivial⟩ (allL_c ⟨gX11_70, trivial⟩ (allL_c ⟨gX11_73, trivial⟩ (allL_c ⟨gX11_76, trivial⟩ (allL_c ⟨gX11_79, trivial⟩ (allL_c ⟨gX11_82, trivial⟩ (allL_c ⟨gX11_85, trivial⟩ (allL_c ⟨gX11_88, trivial⟩ (allL_c ⟨gX11_91, trivial⟩ (allL_c ⟨gX11_95, trivial⟩ (allL_c ⟨gX11_98, trivial⟩ (allL_c ⟨gX11_101, trivial⟩ (allL_c ⟨gX11_104, trivial⟩ (allL_c ⟨gX11_107, trivial⟩ (allL_c ⟨gX11_110, trivial⟩ (allL_c ⟨gX11_113, trivial⟩ (allL_c ⟨gX11_222, wid_c⟩ (allL_c ⟨gX11_225, trivial⟩ (allL_c ⟨gX11_228, trivial⟩ (allL_c ⟨gX11_231, trivial⟩ (allL_c ⟨gX11_234, trivial⟩ (allL_c ⟨gX11_237, trivial⟩ (allL_c ⟨gX11_240, trivial⟩ (allL_c ⟨gX11_243, trivial⟩ (allL_c ⟨gX11_246, trivial⟩ (allL_c ⟨gX11_249, trivial⟩ (allL_c ⟨gX11_252, trivial⟩ (allL_c ⟨gX11_255, trivial⟩ (allL_c ⟨gX11_258, trivial⟩ (allL_c ⟨gX11_261, trivial⟩ (allL_c ⟨gX11_264, trivial⟩ (allL_c ⟨gX11_267, trivial⟩ (allL_c ⟨gX11_270, trivial⟩ trivial))))))))))))))))))))))))))))))))))))))))))))))))))
theorem ini_ok : ∀ o ∈ iniO, opK o = true ∧ opL o := fun o ho => ⟨List.all_eq_true.mp iniK o ho, allL_mem iniL_ok o ho⟩
theorem ini_len : (opsB iniO).length = 5023 := by decide +kernel
theorem ini_bs : dBs cX11_init 0 (42 :: 183 :: 0 :: 1 :: (opsB iniO ++ iniZ)) := dBs_all _ _ [] rfl iniB
theorem ini_bs4 : dBs cX11_init 4 (opsB iniO) ∧ dBs cX11_init 5027 iniZ := by
  have h := dBs_app ini_bs.2.2.2.2
  rw [ini_len] at h
  exact h
