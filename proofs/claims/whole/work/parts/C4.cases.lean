/-! THE LAW: its simple cases (made by wip/whole/gen/genlaw.py) -/
section LC
variable {b h : jH} {s : jP} {Q : jO → jH → Prop} {i : Int}
theorem lc_0 (I : lwH b h s s) (J : jInv s) (hi : 0 ≤ i ∧ i + 6 ≤ hN b 4) (k : lwK b h i Q) : jWp 14 mL_law 180 [(0, jR 4), (1, jR 10), (2, jR 734), (3, jR 764), (4, jI i)] [] h Q := by
  have le := I.2.2.2.2.2.2.2.2
  refine wp_aload_n 1 dL_law_180 rfl ?_
  refine wp_aload_n 0 dL_law_181 rfl ?_
  refine wp_iload 4 dL_law_182 rfl ?_
  refine wp_iconst dL_law_184 ⟨by decide, by decide⟩ ?_
  refine wp_iadd dL_law_185 ⟨by omega, by omega⟩ ?_
  refine wp_script dL_law_186 I.k4 (by omega) (by rw [I.n4]; omega) (fun _ => ?_)
  rw [I.sc]
  refine wp_aload_n 0 dL_law_187 rfl ?_
  refine wp_iload 4 dL_law_188 rfl ?_
  refine wp_iconst dL_law_190 ⟨by decide, by decide⟩ ?_
  refine wp_iadd dL_law_191 ⟨by omega, by omega⟩ ?_
  refine wp_script dL_law_192 I.k4 (by omega) (by rw [I.n4]; omega) (fun _ => ?_)
  rw [I.sc]
  refine wp_aload_n 0 dL_law_193 rfl ?_
  refine wp_iload 4 dL_law_194 rfl ?_
  refine wp_iconst dL_law_196 ⟨by decide, by decide⟩ ?_
  refine wp_iadd dL_law_197 ⟨by omega, by omega⟩ ?_
  refine wp_script dL_law_198 I.k4 (by omega) (by rw [I.n4]; omega) (fun _ => ?_)
  rw [I.sc]
  refine wp_aload_n 0 dL_law_199 rfl ?_
  refine wp_iload 4 dL_law_200 rfl ?_
  refine wp_iconst dL_law_202 ⟨by decide, by decide⟩ ?_
  refine wp_iadd dL_law_203 ⟨by omega, by omega⟩ ?_
  refine wp_script dL_law_204 I.k4 (by omega) (by rw [I.n4]; omega) (fun _ => ?_)
  rw [I.sc]
  refine wp_aload_n 0 dL_law_205 rfl ?_
  refine wp_iload 4 dL_law_206 rfl ?_
  refine wp_iconst dL_law_208 ⟨by decide, by decide⟩ ?_
  refine wp_iadd dL_law_209 ⟨by omega, by omega⟩ ?_
  refine wp_script dL_law_210 I.k4 (by omega) (by rw [I.n4]; omega) (fun _ => ?_)
  rw [I.sc]
  refine wp_callV (ci := 7) (y' := mX10_feed) (st := []) [jI (hA b 4 (i + 1)), jI (hA b 4 (i + 2)), jI (hA b 4 (i + 3)), jI (hA b 4 (i + 4)), jI (hA b 4 (i + 5))] rfl rfl rfl fX10_feed kL_58 nX10_feed dL_law_211 (Nat.le_of_ble_eq_true rfl) I.k10 ?_
  refine u_feed (d := 11) I.1 (fun h1 f1 H1 => ?_)
  obtain ⟨I1, e1, g1⟩ := I.p f1.fr ⟨by decide, by decide⟩ H1
  show jWp 14 mL_law 214 _ [jI _] h1 Q
  refine wp_aload_n 2 dL_law_214 rfl ?_
  refine wp_aload_n 0 dL_law_215 rfl ?_
  refine wp_iload 4 dL_law_216 rfl ?_
  refine wp_iconst dL_law_218 ⟨by decide, by decide⟩ ?_
  refine wp_iadd dL_law_219 ⟨by omega, by omega⟩ ?_
  refine wp_script dL_law_220 I1.k4 (by omega) (by rw [I1.n4]; omega) (fun _ => ?_)
  rw [I1.sc]
  refine wp_aload_n 0 dL_law_221 rfl ?_
  refine wp_iload 4 dL_law_222 rfl ?_
  refine wp_iconst dL_law_224 ⟨by decide, by decide⟩ ?_
  refine wp_iadd dL_law_225 ⟨by omega, by omega⟩ ?_
  refine wp_script dL_law_226 I1.k4 (by omega) (by rw [I1.n4]; omega) (fun _ => ?_)
  rw [I1.sc]
  refine wp_aload_n 0 dL_law_227 rfl ?_
  refine wp_iload 4 dL_law_228 rfl ?_
  refine wp_iconst dL_law_230 ⟨by decide, by decide⟩ ?_
  refine wp_iadd dL_law_231 ⟨by omega, by omega⟩ ?_
  refine wp_script dL_law_232 I1.k4 (by omega) (by rw [I1.n4]; omega) (fun _ => ?_)
  rw [I1.sc]
  refine wp_aload_n 0 dL_law_233 rfl ?_
  refine wp_iload 4 dL_law_234 rfl ?_
  refine wp_iconst dL_law_236 ⟨by decide, by decide⟩ ?_
  refine wp_iadd dL_law_237 ⟨by omega, by omega⟩ ?_
  refine wp_script dL_law_238 I1.k4 (by omega) (by rw [I1.n4]; omega) (fun _ => ?_)
  rw [I1.sc]
  refine wp_aload_n 0 dL_law_239 rfl ?_
  refine wp_iload 4 dL_law_240 rfl ?_
  refine wp_iconst dL_law_242 ⟨by decide, by decide⟩ ?_
  refine wp_iadd dL_law_243 ⟨by omega, by omega⟩ ?_
  refine wp_script dL_law_244 I1.k4 (by omega) (by rw [I1.n4]; omega) (fun _ => ?_)
  rw [I1.sc]
  refine wp_callV (ci := 8) (y' := mX11_feed) (st := [jI _]) [jI (hA b 4 (i + 1)), jI (hA b 4 (i + 2)), jI (hA b 4 (i + 3)), jI (hA b 4 (i + 4)), jI (hA b 4 (i + 5))] rfl rfl rfl fX11_feed kL_62 nX11_feed dL_law_245 (Nat.le_of_ble_eq_true rfl) I1.k734 ?_
  refine v_feed (d := 13) I1.2.1 (fun h2 f2 H2 => ?_)
  obtain ⟨I2, e2, g2⟩ := I1.m f2 (by decide) H2
  show jWp 14 mL_law 248 _ [jI _, jI _] h2 Q
  refine wp_icmp_eq 1482 dL_law_248 rfl (fun _ => ?_) (fun z => absurd rfl z)
  exact k h2 _ I2 (I_feed J _ _ _ _ _) (by omega) (by omega)
theorem lc_1 (I : lwH b h s s) (J : jInv s) (hi : 0 ≤ i ∧ i + 6 ≤ hN b 4) (k : lwK b h i Q) : jWp 14 mL_law 253 [(0, jR 4), (1, jR 10), (2, jR 734), (3, jR 764), (4, jI i)] [] h Q := by
  have le := I.2.2.2.2.2.2.2.2
  refine wp_aload_n 1 dL_law_253 rfl ?_
  refine wp_aload_n 0 dL_law_254 rfl ?_
  refine wp_iload 4 dL_law_255 rfl ?_
  refine wp_iconst dL_law_257 ⟨by decide, by decide⟩ ?_
  refine wp_iadd dL_law_258 ⟨by omega, by omega⟩ ?_
  refine wp_script dL_law_259 I.k4 (by omega) (by rw [I.n4]; omega) (fun _ => ?_)
  rw [I.sc]
  refine wp_callV (ci := 7) (y' := mX10_end) (st := []) [jI (hA b 4 (i + 1))] rfl rfl rfl fX10_end kL_63 nX10_end dL_law_260 (Nat.le_of_ble_eq_true rfl) I.k10 ?_
  refine u_end (d := 12) I.1 (fun h1 f1 H1 => ?_)
  obtain ⟨I1, e1, g1⟩ := I.p f1.fr ⟨by decide, by decide⟩ H1
  show jWp 14 mL_law 263 _ [jI _] h1 Q
  refine wp_aload_n 2 dL_law_263 rfl ?_
  refine wp_aload_n 0 dL_law_264 rfl ?_
  refine wp_iload 4 dL_law_265 rfl ?_
  refine wp_iconst dL_law_267 ⟨by decide, by decide⟩ ?_
  refine wp_iadd dL_law_268 ⟨by omega, by omega⟩ ?_
  refine wp_script dL_law_269 I1.k4 (by omega) (by rw [I1.n4]; omega) (fun _ => ?_)
  rw [I1.sc]
  refine wp_callV (ci := 8) (y' := mX11_end) (st := [jI _]) [jI (hA b 4 (i + 1))] rfl rfl rfl fX11_end kL_66 nX11_end dL_law_270 (Nat.le_of_ble_eq_true rfl) I1.k734 ?_
  refine v_end (d := 13) I1.2.1 (fun h2 f2 H2 => ?_)
  obtain ⟨I2, e2, g2⟩ := I1.m f2 (by decide) H2
  show jWp 14 mL_law 273 _ [jI _, jI _] h2 Q
  refine wp_icmp_eq 1482 dL_law_273 rfl (fun _ => ?_) (fun z => absurd rfl z)
  exact k h2 _ I2 (I_end J _) (by omega) (by omega)
theorem lc_2 (I : lwH b h s s) (J : jInv s) (hi : 0 ≤ i ∧ i + 6 ≤ hN b 4) (k : lwK b h i Q) : jWp 14 mL_law 278 [(0, jR 4), (1, jR 10), (2, jR 734), (3, jR 764), (4, jI i)] [] h Q := by
  have le := I.2.2.2.2.2.2.2.2
  refine wp_aload_n 1 dL_law_278 rfl ?_
  refine wp_callV (ci := 7) (y' := mX10_take) (st := []) [] rfl rfl rfl fX10_take kL_67 nX10_take dL_law_279 (Nat.le_of_ble_eq_true rfl) I.k10 ?_
  refine u_take (d := 11) I.1 (fun h1 f1 H1 => ?_)
  obtain ⟨I1, e1, g1⟩ := I.p f1.fr ⟨by decide, by decide⟩ H1
  show jWp 14 mL_law 282 _ [jI _] h1 Q
  refine wp_aload_n 2 dL_law_282 rfl ?_
  refine wp_callV (ci := 8) (y' := mX11_take) (st := [jI _]) [] rfl rfl rfl fX11_take kL_70 nX11_take dL_law_283 (Nat.le_of_ble_eq_true rfl) I1.k734 ?_
  refine v_take (d := 13) (fun c hc => (J.outs c hc).2) I1.2.1 (fun h2 f2 H2 => ?_)
  obtain ⟨I2, e2, g2⟩ := I1.m f2 (by decide) H2
  show jWp 14 mL_law 286 _ [jI _, jI _] h2 Q
  refine wp_icmp_eq 1482 dL_law_286 rfl (fun _ => ?_) (fun z => absurd rfl z)
  exact k h2 _ I2 (I_take J) (by omega) (by omega)
theorem lc_3 (I : lwH b h s s) (J : jInv s) (hi : 0 ≤ i ∧ i + 6 ≤ hN b 4) (k : lwK b h i Q) : jWp 14 mL_law 291 [(0, jR 4), (1, jR 10), (2, jR 734), (3, jR 764), (4, jI i)] [] h Q := by
  have le := I.2.2.2.2.2.2.2.2
  refine wp_aload_n 1 dL_law_291 rfl ?_
  refine wp_aload_n 0 dL_law_292 rfl ?_
  refine wp_iload 4 dL_law_293 rfl ?_
  refine wp_iconst dL_law_295 ⟨by decide, by decide⟩ ?_
  refine wp_iadd dL_law_296 ⟨by omega, by omega⟩ ?_
  refine wp_script dL_law_297 I.k4 (by omega) (by rw [I.n4]; omega) (fun _ => ?_)
  rw [I.sc]
  refine wp_callV (ci := 7) (y' := mX10_clock) (st := []) [jI (hA b 4 (i + 1))] rfl rfl rfl fX10_clock kL_71 nX10_clock dL_law_298 (Nat.le_of_ble_eq_true rfl) I.k10 ?_
  refine u_clock (d := 13) I.1 (fun h1 f1 H1 => ?_)
  obtain ⟨I1, e1, g1⟩ := I.p f1.fr ⟨by decide, by decide⟩ H1
  show jWp 14 mL_law 301 _ [jI _] h1 Q
  refine wp_aload_n 2 dL_law_301 rfl ?_
  refine wp_aload_n 0 dL_law_302 rfl ?_
  refine wp_iload 4 dL_law_303 rfl ?_
  refine wp_iconst dL_law_305 ⟨by decide, by decide⟩ ?_
  refine wp_iadd dL_law_306 ⟨by omega, by omega⟩ ?_
  refine wp_script dL_law_307 I1.k4 (by omega) (by rw [I1.n4]; omega) (fun _ => ?_)
  rw [I1.sc]
  refine wp_callV (ci := 8) (y' := mX11_clock) (st := [jI _]) [jI (hA b 4 (i + 1))] rfl rfl rfl fX11_clock kL_74 nX11_clock dL_law_308 (Nat.le_of_ble_eq_true rfl) I1.k734 ?_
  refine v_clock (d := 13) I1.2.1 (fun h2 f2 H2 => ?_)
  obtain ⟨I2, e2, g2⟩ := I1.m f2 (by decide) H2
  show jWp 14 mL_law 311 _ [jI _, jI _] h2 Q
  refine wp_icmp_eq 1482 dL_law_311 rfl (fun _ => ?_) (fun z => absurd rfl z)
  exact k h2 _ I2 (I_clock J _) (by omega) (by omega)
theorem lc_4 (I : lwH b h s s) (J : jInv s) (hi : 0 ≤ i ∧ i + 6 ≤ hN b 4) (k : lwK b h i Q) : jWp 14 mL_law 316 [(0, jR 4), (1, jR 10), (2, jR 734), (3, jR 764), (4, jI i)] [] h Q := by
  have le := I.2.2.2.2.2.2.2.2
  refine wp_aload_n 1 dL_law_316 rfl ?_
  refine wp_aload_n 0 dL_law_317 rfl ?_
  refine wp_iload 4 dL_law_318 rfl ?_
  refine wp_iconst dL_law_320 ⟨by decide, by decide⟩ ?_
  refine wp_iadd dL_law_321 ⟨by omega, by omega⟩ ?_
  refine wp_script dL_law_322 I.k4 (by omega) (by rw [I.n4]; omega) (fun _ => ?_)
  rw [I.sc]
  refine wp_if_eq 330 dL_law_323 rfl (fun zz => ?_) (fun zz => ?_)
  ·
    refine wp_iconst dL_law_330 ⟨by decide, by decide⟩ ?_
    refine wp_callV (ci := 7) (y' := mX10_read) (st := []) [jI 0] rfl rfl rfl fX10_read kL_75 nX10_read dL_law_331 (Nat.le_of_ble_eq_true rfl) I.k10 ?_
    refine u_read (d := 3) (br := false) J.tape J.clk I.1 (fun h1 f1 H1 => ?_)
    obtain ⟨I1, e1, g1⟩ := I.p f1 ⟨by decide, by decide⟩ H1
    show jWp 14 mL_law 334 _ [jI _] h1 Q
    refine wp_aload_n 2 dL_law_334 rfl ?_
    refine wp_aload_n 0 dL_law_335 rfl ?_
    refine wp_iload 4 dL_law_336 rfl ?_
    refine wp_iconst dL_law_338 ⟨by decide, by decide⟩ ?_
    refine wp_iadd dL_law_339 ⟨by omega, by omega⟩ ?_
    refine wp_script dL_law_340 I1.k4 (by omega) (by rw [I1.n4]; omega) (fun _ => ?_)
    rw [I1.sc]
    refine wp_if_eq 348 dL_law_341 rfl (fun _ => ?_) (fun z => absurd zz z)
    refine wp_iconst dL_law_348 ⟨by decide, by decide⟩ ?_
    refine wp_callV (ci := 8) (y' := mX11_read) (st := [jI _]) [jI 0] rfl rfl rfl fX11_read kL_79 nX11_read dL_law_349 (Nat.le_of_ble_eq_true rfl) I1.k734 ?_
    refine v_read (d := 8) (br := false) J.tape J.clk I1.2.1 (fun h2 f2 H2 => ?_)
    obtain ⟨I2, e2, g2⟩ := I1.m f2 (by decide) H2
    show jWp 14 mL_law 352 _ [jI _, jI _] h2 Q
    refine wp_icmp_eq 1482 dL_law_352 rfl (fun _ => ?_) (fun z => absurd rfl z)
    exact k h2 _ I2 (I_read J _) (by omega) (by omega)
  ·
    refine wp_iconst dL_law_326 ⟨by decide, by decide⟩ ?_
    refine wp_goto 331 dL_law_327 rfl ?_
    refine wp_callV (ci := 7) (y' := mX10_read) (st := []) [jI 1] rfl rfl rfl fX10_read kL_75 nX10_read dL_law_331 (Nat.le_of_ble_eq_true rfl) I.k10 ?_
    refine u_read (d := 3) (br := true) J.tape J.clk I.1 (fun h1 f1 H1 => ?_)
    obtain ⟨I1, e1, g1⟩ := I.p f1 ⟨by decide, by decide⟩ H1
    show jWp 14 mL_law 334 _ [jI _] h1 Q
    refine wp_aload_n 2 dL_law_334 rfl ?_
    refine wp_aload_n 0 dL_law_335 rfl ?_
    refine wp_iload 4 dL_law_336 rfl ?_
    refine wp_iconst dL_law_338 ⟨by decide, by decide⟩ ?_
    refine wp_iadd dL_law_339 ⟨by omega, by omega⟩ ?_
    refine wp_script dL_law_340 I1.k4 (by omega) (by rw [I1.n4]; omega) (fun _ => ?_)
    rw [I1.sc]
    refine wp_if_eq 348 dL_law_341 rfl (fun z => absurd z zz) (fun _ => ?_)
    refine wp_iconst dL_law_344 ⟨by decide, by decide⟩ ?_
    refine wp_goto 349 dL_law_345 rfl ?_
    refine wp_callV (ci := 8) (y' := mX11_read) (st := [jI _]) [jI 1] rfl rfl rfl fX11_read kL_79 nX11_read dL_law_349 (Nat.le_of_ble_eq_true rfl) I1.k734 ?_
    refine v_read (d := 8) (br := true) J.tape J.clk I1.2.1 (fun h2 f2 H2 => ?_)
    obtain ⟨I2, e2, g2⟩ := I1.m f2 (by decide) H2
    show jWp 14 mL_law 352 _ [jI _, jI _] h2 Q
    refine wp_icmp_eq 1482 dL_law_352 rfl (fun _ => ?_) (fun z => absurd rfl z)
    exact k h2 _ I2 (I_read J _) (by omega) (by omega)
theorem lc_5 (I : lwH b h s s) (J : jInv s) (hi : 0 ≤ i ∧ i + 6 ≤ hN b 4) (k : lwK b h i Q) : jWp 14 mL_law 357 [(0, jR 4), (1, jR 10), (2, jR 734), (3, jR 764), (4, jI i)] [] h Q := by
  have le := I.2.2.2.2.2.2.2.2
  refine wp_aload_n 1 dL_law_357 rfl ?_
  refine wp_aload_n 0 dL_law_358 rfl ?_
  refine wp_iload 4 dL_law_359 rfl ?_
  refine wp_iconst dL_law_361 ⟨by decide, by decide⟩ ?_
  refine wp_iadd dL_law_362 ⟨by omega, by omega⟩ ?_
  refine wp_script dL_law_363 I.k4 (by omega) (by rw [I.n4]; omega) (fun _ => ?_)
  rw [I.sc]
  refine wp_callV (ci := 7) (y' := mX10_fault) (st := []) [jI (hA b 4 (i + 1))] rfl rfl rfl fX10_fault kL_80 nX10_fault dL_law_364 (Nat.le_of_ble_eq_true rfl) I.k10 ?_
  refine u_fault (d := 13) I.1 ?_
  have e1 : hS h = hS h := rfl
  have g1 : hT h = hT h := rfl
  show jWp 14 mL_law 367 _ [jI _] h Q
  refine wp_aload_n 2 dL_law_367 rfl ?_
  refine wp_aload_n 0 dL_law_368 rfl ?_
  refine wp_iload 4 dL_law_369 rfl ?_
  refine wp_iconst dL_law_371 ⟨by decide, by decide⟩ ?_
  refine wp_iadd dL_law_372 ⟨by omega, by omega⟩ ?_
  refine wp_script dL_law_373 I.k4 (by omega) (by rw [I.n4]; omega) (fun _ => ?_)
  rw [I.sc]
  refine wp_callV (ci := 8) (y' := mX11_fault_) (st := [jI _]) [jI (hA b 4 (i + 1))] rfl rfl rfl fX11_fault_ kL_83 nX11_fault_ dL_law_374 (Nat.le_of_ble_eq_true rfl) I.k734 ?_
  refine v_fault (d := 13) I.2.1 (fun h2 f2 H2 => ?_)
  obtain ⟨I2, e2, g2⟩ := I.m f2 (by decide) H2
  show jWp 14 mL_law 377 _ [jI _, jI _] h2 Q
  refine wp_icmp_eq 1482 dL_law_377 rfl (fun _ => ?_) (fun z => absurd rfl z)
  exact k h2 _ I2 (J) (by omega) (by omega)
theorem lc_6 (I : lwH b h s s) (J : jInv s) (hi : 0 ≤ i ∧ i + 6 ≤ hN b 4) (k : lwK b h i Q) : jWp 14 mL_law 382 [(0, jR 4), (1, jR 10), (2, jR 734), (3, jR 764), (4, jI i)] [] h Q := by
  have le := I.2.2.2.2.2.2.2.2
  refine wp_aload_n 1 dL_law_382 rfl ?_
  refine wp_aload_n 0 dL_law_383 rfl ?_
  refine wp_iload 4 dL_law_384 rfl ?_
  refine wp_iconst dL_law_386 ⟨by decide, by decide⟩ ?_
  refine wp_iadd dL_law_387 ⟨by omega, by omega⟩ ?_
  refine wp_script dL_law_388 I.k4 (by omega) (by rw [I.n4]; omega) (fun _ => ?_)
  rw [I.sc]
  refine wp_callV (ci := 7) (y' := mX10_list) (st := []) [jI (hA b 4 (i + 1))] rfl rfl rfl fX10_list kL_84 nX10_list dL_law_389 (Nat.le_of_ble_eq_true rfl) I.k10 ?_
  refine u_list (d := 8) I.1 ?_
  have e1 : hS h = hS h := rfl
  have g1 : hT h = hT h := rfl
  show jWp 14 mL_law 392 _ [jI _] h Q
  refine wp_aload_n 2 dL_law_392 rfl ?_
  refine wp_aload_n 0 dL_law_393 rfl ?_
  refine wp_iload 4 dL_law_394 rfl ?_
  refine wp_iconst dL_law_396 ⟨by decide, by decide⟩ ?_
  refine wp_iadd dL_law_397 ⟨by omega, by omega⟩ ?_
  refine wp_script dL_law_398 I.k4 (by omega) (by rw [I.n4]; omega) (fun _ => ?_)
  rw [I.sc]
  refine wp_callV (ci := 8) (y' := mX11_list) (st := [jI _]) [jI (hA b 4 (i + 1))] rfl rfl rfl fX11_list kL_87 nX11_list dL_law_399 (Nat.le_of_ble_eq_true rfl) I.k734 ?_
  refine n_list (d := 11) I.2.1.1 I.2.1.2.1 I.2.1.2.2.2.2.2.2.1.1 (fun h2 f2 => ?_)
  have H2 := md_same I.2.1 f2 (by decide) (by decide)
  obtain ⟨I2, e2, g2⟩ := I.m f2 (by decide) H2
  show jWp 14 mL_law 402 _ [jI _, jI _] h2 Q
  refine wp_icmp_eq 1482 dL_law_402 rfl (fun _ => ?_) (fun z => absurd rfl z)
  exact k h2 _ I2 (J) (by omega) (by omega)
theorem lc_12 (I : lwH b h s s) (J : jInv s) (hi : 0 ≤ i ∧ i + 6 ≤ hN b 4) (k : lwK b h i Q) : jWp 14 mL_law 770 [(0, jR 4), (1, jR 10), (2, jR 734), (3, jR 764), (4, jI i)] [] h Q := by
  have le := I.2.2.2.2.2.2.2.2
  refine wp_aload_n 1 dL_law_770 rfl ?_
  refine wp_aload_n 0 dL_law_771 rfl ?_
  refine wp_iload 4 dL_law_772 rfl ?_
  refine wp_iconst dL_law_774 ⟨by decide, by decide⟩ ?_
  refine wp_iadd dL_law_775 ⟨by omega, by omega⟩ ?_
  refine wp_script dL_law_776 I.k4 (by omega) (by rw [I.n4]; omega) (fun _ => ?_)
  rw [I.sc]
  refine wp_aload_n 0 dL_law_777 rfl ?_
  refine wp_iload 4 dL_law_778 rfl ?_
  refine wp_iconst dL_law_780 ⟨by decide, by decide⟩ ?_
  refine wp_iadd dL_law_781 ⟨by omega, by omega⟩ ?_
  refine wp_script dL_law_782 I.k4 (by omega) (by rw [I.n4]; omega) (fun _ => ?_)
  rw [I.sc]
  refine wp_callV (ci := 7) (y' := mX10_find) (st := []) [jI (hA b 4 (i + 1)), jI (hA b 4 (i + 2))] rfl rfl rfl fX10_find kL_110 nX10_find dL_law_783 (Nat.le_of_ble_eq_true rfl) I.k10 ?_
  refine u_find (d := 11) I.1 ?_
  have e1 : hS h = hS h := rfl
  have g1 : hT h = hT h := rfl
  show jWp 14 mL_law 786 _ [jI _] h Q
  refine wp_aload_n 2 dL_law_786 rfl ?_
  refine wp_aload_n 0 dL_law_787 rfl ?_
  refine wp_iload 4 dL_law_788 rfl ?_
  refine wp_iconst dL_law_790 ⟨by decide, by decide⟩ ?_
  refine wp_iadd dL_law_791 ⟨by omega, by omega⟩ ?_
  refine wp_script dL_law_792 I.k4 (by omega) (by rw [I.n4]; omega) (fun _ => ?_)
  rw [I.sc]
  refine wp_aload_n 0 dL_law_793 rfl ?_
  refine wp_iload 4 dL_law_794 rfl ?_
  refine wp_iconst dL_law_796 ⟨by decide, by decide⟩ ?_
  refine wp_iadd dL_law_797 ⟨by omega, by omega⟩ ?_
  refine wp_script dL_law_798 I.k4 (by omega) (by rw [I.n4]; omega) (fun _ => ?_)
  rw [I.sc]
  refine wp_callV (ci := 8) (y' := mX11_find) (st := [jI _]) [jI (hA b 4 (i + 1)), jI (hA b 4 (i + 2))] rfl rfl rfl fX11_find kL_113 nX11_find dL_law_799 (Nat.le_of_ble_eq_true rfl) I.k734 ?_
  refine n_find (d := 13) I.2.1.1 I.2.1.2.1 I.2.1.2.2.2.2.2.2.1.1 (fun h2 f2 => ?_)
  have H2 := md_same I.2.1 f2 (by decide) (by decide)
  obtain ⟨I2, e2, g2⟩ := I.m f2 (by decide) H2
  show jWp 14 mL_law 802 _ [jI _, jI _] h2 Q
  refine wp_icmp_eq 1482 dL_law_802 rfl (fun _ => ?_) (fun z => absurd rfl z)
  exact k h2 _ I2 (J) (by omega) (by omega)
theorem lc_13 (I : lwH b h s s) (J : jInv s) (hi : 0 ≤ i ∧ i + 6 ≤ hN b 4) (k : lwK b h i Q) : jWp 14 mL_law 807 [(0, jR 4), (1, jR 10), (2, jR 734), (3, jR 764), (4, jI i)] [] h Q := by
  have le := I.2.2.2.2.2.2.2.2
  refine wp_aload_n 1 dL_law_807 rfl ?_
  refine wp_aload_n 0 dL_law_808 rfl ?_
  refine wp_iload 4 dL_law_809 rfl ?_
  refine wp_iconst dL_law_811 ⟨by decide, by decide⟩ ?_
  refine wp_iadd dL_law_812 ⟨by omega, by omega⟩ ?_
  refine wp_script dL_law_813 I.k4 (by omega) (by rw [I.n4]; omega) (fun _ => ?_)
  rw [I.sc]
  refine wp_if_eq 821 dL_law_814 rfl (fun zz => ?_) (fun zz => ?_)
  ·
    refine wp_iconst dL_law_821 ⟨by decide, by decide⟩ ?_
    refine wp_callV (ci := 7) (y' := mX10_write) (st := []) [jI 0] rfl rfl rfl fX10_write kL_114 nX10_write dL_law_822 (Nat.le_of_ble_eq_true rfl) I.k10 ?_
    refine u_write (d := 9) (br := false) I.1 (fun h1 f1 H1 => ?_)
    obtain ⟨I1, e1, g1⟩ := I.p f1.fr ⟨by decide, by decide⟩ H1
    show jWp 14 mL_law 825 _ [jI _] h1 Q
    refine wp_aload_n 2 dL_law_825 rfl ?_
    refine wp_aload_n 0 dL_law_826 rfl ?_
    refine wp_iload 4 dL_law_827 rfl ?_
    refine wp_iconst dL_law_829 ⟨by decide, by decide⟩ ?_
    refine wp_iadd dL_law_830 ⟨by omega, by omega⟩ ?_
    refine wp_script dL_law_831 I1.k4 (by omega) (by rw [I1.n4]; omega) (fun _ => ?_)
    rw [I1.sc]
    refine wp_if_eq 839 dL_law_832 rfl (fun _ => ?_) (fun z => absurd zz z)
    refine wp_iconst dL_law_839 ⟨by decide, by decide⟩ ?_
    refine wp_callV (ci := 8) (y' := mX11_write) (st := [jI _]) [jI 0] rfl rfl rfl fX11_write kL_117 nX11_write dL_law_840 (Nat.le_of_ble_eq_true rfl) I1.k734 ?_
    refine v_write (d := 10) (br := false) J.byt I1.2.1 (fun h2 f2 H2 => ?_)
    obtain ⟨I2, e2, g2⟩ := I1.m f2 (by decide) H2
    show jWp 14 mL_law 843 _ [jI _, jI _] h2 Q
    refine wp_icmp_eq 1482 dL_law_843 rfl (fun _ => ?_) (fun z => absurd rfl z)
    exact k h2 _ I2 (I_write J _) (by omega) (by omega)
  ·
    refine wp_iconst dL_law_817 ⟨by decide, by decide⟩ ?_
    refine wp_goto 822 dL_law_818 rfl ?_
    refine wp_callV (ci := 7) (y' := mX10_write) (st := []) [jI 1] rfl rfl rfl fX10_write kL_114 nX10_write dL_law_822 (Nat.le_of_ble_eq_true rfl) I.k10 ?_
    refine u_write (d := 9) (br := true) I.1 (fun h1 f1 H1 => ?_)
    obtain ⟨I1, e1, g1⟩ := I.p f1.fr ⟨by decide, by decide⟩ H1
    show jWp 14 mL_law 825 _ [jI _] h1 Q
    refine wp_aload_n 2 dL_law_825 rfl ?_
    refine wp_aload_n 0 dL_law_826 rfl ?_
    refine wp_iload 4 dL_law_827 rfl ?_
    refine wp_iconst dL_law_829 ⟨by decide, by decide⟩ ?_
    refine wp_iadd dL_law_830 ⟨by omega, by omega⟩ ?_
    refine wp_script dL_law_831 I1.k4 (by omega) (by rw [I1.n4]; omega) (fun _ => ?_)
    rw [I1.sc]
    refine wp_if_eq 839 dL_law_832 rfl (fun z => absurd z zz) (fun _ => ?_)
    refine wp_iconst dL_law_835 ⟨by decide, by decide⟩ ?_
    refine wp_goto 840 dL_law_836 rfl ?_
    refine wp_callV (ci := 8) (y' := mX11_write) (st := [jI _]) [jI 1] rfl rfl rfl fX11_write kL_117 nX11_write dL_law_840 (Nat.le_of_ble_eq_true rfl) I1.k734 ?_
    refine v_write (d := 10) (br := true) J.byt I1.2.1 (fun h2 f2 H2 => ?_)
    obtain ⟨I2, e2, g2⟩ := I1.m f2 (by decide) H2
    show jWp 14 mL_law 843 _ [jI _, jI _] h2 Q
    refine wp_icmp_eq 1482 dL_law_843 rfl (fun _ => ?_) (fun z => absurd rfl z)
    exact k h2 _ I2 (I_write J _) (by omega) (by omega)
theorem lc_14 (I : lwH b h s s) (J : jInv s) (hi : 0 ≤ i ∧ i + 6 ≤ hN b 4) (k : lwK b h i Q) : jWp 14 mL_law 848 [(0, jR 4), (1, jR 10), (2, jR 734), (3, jR 764), (4, jI i)] [] h Q := by
  have le := I.2.2.2.2.2.2.2.2
  refine wp_aload_n 1 dL_law_848 rfl ?_
  refine wp_aload_n 0 dL_law_849 rfl ?_
  refine wp_iload 4 dL_law_850 rfl ?_
  refine wp_iconst dL_law_852 ⟨by decide, by decide⟩ ?_
  refine wp_iadd dL_law_853 ⟨by omega, by omega⟩ ?_
  refine wp_script dL_law_854 I.k4 (by omega) (by rw [I.n4]; omega) (fun _ => ?_)
  rw [I.sc]
  refine wp_callV (ci := 7) (y' := mX10_out) (st := []) [jI (hA b 4 (i + 1))] rfl rfl rfl fX10_out kL_118 nX10_out dL_law_855 (Nat.le_of_ble_eq_true rfl) I.k10 ?_
  refine u_out (d := 12) I.1 ?_
  have e1 : hS h = hS h := rfl
  have g1 : hT h = hT h := rfl
  show jWp 14 mL_law 858 _ [jI _] h Q
  refine wp_aload_n 2 dL_law_858 rfl ?_
  refine wp_aload_n 0 dL_law_859 rfl ?_
  refine wp_iload 4 dL_law_860 rfl ?_
  refine wp_iconst dL_law_862 ⟨by decide, by decide⟩ ?_
  refine wp_iadd dL_law_863 ⟨by omega, by omega⟩ ?_
  refine wp_script dL_law_864 I.k4 (by omega) (by rw [I.n4]; omega) (fun _ => ?_)
  rw [I.sc]
  refine wp_callV (ci := 8) (y' := mX11_out) (st := [jI _]) [jI (hA b 4 (i + 1))] rfl rfl rfl fX11_out kL_121 nX11_out dL_law_865 (Nat.le_of_ble_eq_true rfl) I.k734 ?_
  refine v_out (d := 13) I.2.1 (fun h2 f2 H2 => ?_)
  obtain ⟨I2, e2, g2⟩ := I.m f2 (by decide) H2
  show jWp 14 mL_law 868 _ [jI _, jI _] h2 Q
  refine wp_icmp_eq 1482 dL_law_868 rfl (fun _ => ?_) (fun z => absurd rfl z)
  exact k h2 _ I2 (J) (by omega) (by omega)
theorem lc_15 (I : lwH b h s s) (J : jInv s) (hi : 0 ≤ i ∧ i + 6 ≤ hN b 4) (k : lwK b h i Q) : jWp 14 mL_law 873 [(0, jR 4), (1, jR 10), (2, jR 734), (3, jR 764), (4, jI i)] [] h Q := by
  have le := I.2.2.2.2.2.2.2.2
  refine wp_aload_n 1 dL_law_873 rfl ?_
  refine wp_callV (ci := 7) (y' := mX10_arrange) (st := []) [] rfl rfl rfl fX10_arrange kL_122 nX10_arrange dL_law_874 (Nat.le_of_ble_eq_true rfl) I.k10 ?_
  refine u_arrange (d := 10) I.1 (fun h1 f1 H1 => ?_)
  obtain ⟨I1, e1, g1⟩ := I.p f1 ⟨by decide, by decide⟩ H1
  show jWp 14 mL_law 877 _ [jI _] h1 Q
  refine wp_aload_n 2 dL_law_877 rfl ?_
  refine wp_callV (ci := 8) (y' := mX11_arrange) (st := [jI _]) [] rfl rfl rfl fX11_arrange kL_125 nX11_arrange dL_law_878 (Nat.le_of_ble_eq_true rfl) I1.k734 ?_
  refine v_arrange (d := 11) I1.2.1 (fun h2 f2 H2 => ?_)
  obtain ⟨I2, e2, g2⟩ := I1.m f2 (by decide) H2
  show jWp 14 mL_law 881 _ [jI _, jI _] h2 Q
  refine wp_icmp_eq 1482 dL_law_881 rfl (fun _ => ?_) (fun z => absurd rfl z)
  exact k h2 _ I2 (I_arr J) (by omega) (by omega)
theorem lc_20 (I : lwH b h s s) (J : jInv s) (hi : 0 ≤ i ∧ i + 6 ≤ hN b 4) (k : lwK b h i Q) : jWp 14 mL_law 1117 [(0, jR 4), (1, jR 10), (2, jR 734), (3, jR 764), (4, jI i)] [] h Q := by
  have le := I.2.2.2.2.2.2.2.2
  refine wp_aload_n 1 dL_law_1117 rfl ?_
  refine wp_callV (ci := 7) (y' := mX10_check) (st := []) [] rfl rfl rfl fX10_check kL_139 nX10_check dL_law_1118 (Nat.le_of_ble_eq_true rfl) I.k10 ?_
  refine u_check (d := 11) I.1 (fun h1 f1 H1 => ?_)
  obtain ⟨I1, e1, g1⟩ := I.p f1.fr ⟨by decide, by decide⟩ H1
  show jWp 14 mL_law 1121 _ [jI _] h1 Q
  refine wp_aload_n 2 dL_law_1121 rfl ?_
  refine wp_callV (ci := 8) (y' := mX11_check) (st := [jI _]) [] rfl rfl rfl fX11_check kL_142 nX11_check dL_law_1122 (Nat.le_of_ble_eq_true rfl) I1.k734 ?_
  refine v_check (d := 12) J.tape I1.2.1 (fun h2 f2 H2 => ?_)
  obtain ⟨I2, e2, g2⟩ := I1.m f2 (by decide) H2
  show jWp 14 mL_law 1125 _ [jI _, jI _] h2 Q
  refine wp_icmp_eq 1482 dL_law_1125 rfl (fun _ => ?_) (fun z => absurd rfl z)
  exact k h2 _ I2 (I_none J) (by omega) (by omega)
theorem lc_22 (I : lwH b h s s) (J : jInv s) (hi : 0 ≤ i ∧ i + 6 ≤ hN b 4) (k : lwK b h i Q) : jWp 14 mL_law 1186 [(0, jR 4), (1, jR 10), (2, jR 734), (3, jR 764), (4, jI i)] [] h Q := by
  have le := I.2.2.2.2.2.2.2.2
  refine wp_aload_n 1 dL_law_1186 rfl ?_
  refine wp_aload_n 0 dL_law_1187 rfl ?_
  refine wp_iload 4 dL_law_1188 rfl ?_
  refine wp_iconst dL_law_1190 ⟨by decide, by decide⟩ ?_
  refine wp_iadd dL_law_1191 ⟨by omega, by omega⟩ ?_
  refine wp_script dL_law_1192 I.k4 (by omega) (by rw [I.n4]; omega) (fun _ => ?_)
  rw [I.sc]
  refine wp_callV (ci := 7) (y' := mX10_character) (st := []) [jI (hA b 4 (i + 1))] rfl rfl rfl fX10_character kL_146 nX10_character dL_law_1193 (Nat.le_of_ble_eq_true rfl) I.k10 ?_
  refine u_character (d := 12) I.1 ?_
  have e1 : hS h = hS h := rfl
  have g1 : hT h = hT h := rfl
  show jWp 14 mL_law 1196 _ [jI _] h Q
  refine wp_aload_n 2 dL_law_1196 rfl ?_
  refine wp_aload_n 0 dL_law_1197 rfl ?_
  refine wp_iload 4 dL_law_1198 rfl ?_
  refine wp_iconst dL_law_1200 ⟨by decide, by decide⟩ ?_
  refine wp_iadd dL_law_1201 ⟨by omega, by omega⟩ ?_
  refine wp_script dL_law_1202 I.k4 (by omega) (by rw [I.n4]; omega) (fun _ => ?_)
  rw [I.sc]
  refine wp_callV (ci := 8) (y' := mX11_character) (st := [jI _]) [jI (hA b 4 (i + 1))] rfl rfl rfl fX11_character kL_149 nX11_character dL_law_1203 (Nat.le_of_ble_eq_true rfl) I.k734 ?_
  refine v_character (d := 13) I.2.1 (fun h2 f2 H2 => ?_)
  obtain ⟨I2, e2, g2⟩ := I.m f2 (by decide) H2
  show jWp 14 mL_law 1206 _ [jI _, jI _] h2 Q
  refine wp_icmp_eq 1482 dL_law_1206 rfl (fun _ => ?_) (fun z => absurd rfl z)
  exact k h2 _ I2 (J) (by omega) (by omega)
theorem lc_24 (I : lwH b h s s) (J : jInv s) (hi : 0 ≤ i ∧ i + 6 ≤ hN b 4) (k : lwK b h i Q) : jWp 14 mL_law 1255 [(0, jR 4), (1, jR 10), (2, jR 734), (3, jR 764), (4, jI i)] [] h Q := by
  have le := I.2.2.2.2.2.2.2.2
  refine wp_aload_n 1 dL_law_1255 rfl ?_
  refine wp_aload_n 0 dL_law_1256 rfl ?_
  refine wp_iload 4 dL_law_1257 rfl ?_
  refine wp_iconst dL_law_1259 ⟨by decide, by decide⟩ ?_
  refine wp_iadd dL_law_1260 ⟨by omega, by omega⟩ ?_
  refine wp_script dL_law_1261 I.k4 (by omega) (by rw [I.n4]; omega) (fun _ => ?_)
  rw [I.sc]
  refine wp_aload_n 0 dL_law_1262 rfl ?_
  refine wp_iload 4 dL_law_1263 rfl ?_
  refine wp_iconst dL_law_1265 ⟨by decide, by decide⟩ ?_
  refine wp_iadd dL_law_1266 ⟨by omega, by omega⟩ ?_
  refine wp_script dL_law_1267 I.k4 (by omega) (by rw [I.n4]; omega) (fun _ => ?_)
  rw [I.sc]
  refine wp_aload_n 0 dL_law_1268 rfl ?_
  refine wp_iload 4 dL_law_1269 rfl ?_
  refine wp_iconst dL_law_1271 ⟨by decide, by decide⟩ ?_
  refine wp_iadd dL_law_1272 ⟨by omega, by omega⟩ ?_
  refine wp_script dL_law_1273 I.k4 (by omega) (by rw [I.n4]; omega) (fun _ => ?_)
  rw [I.sc]
  refine wp_aload_n 0 dL_law_1274 rfl ?_
  refine wp_iload 4 dL_law_1275 rfl ?_
  refine wp_iconst dL_law_1277 ⟨by decide, by decide⟩ ?_
  refine wp_iadd dL_law_1278 ⟨by omega, by omega⟩ ?_
  refine wp_script dL_law_1279 I.k4 (by omega) (by rw [I.n4]; omega) (fun _ => ?_)
  rw [I.sc]
  refine wp_aload_n 0 dL_law_1280 rfl ?_
  refine wp_iload 4 dL_law_1281 rfl ?_
  refine wp_iconst dL_law_1283 ⟨by decide, by decide⟩ ?_
  refine wp_iadd dL_law_1284 ⟨by omega, by omega⟩ ?_
  refine wp_script dL_law_1285 I.k4 (by omega) (by rw [I.n4]; omega) (fun _ => ?_)
  rw [I.sc]
  refine wp_callV (ci := 7) (y' := mX10_bars) (st := []) [jI (hA b 4 (i + 1)), jI (hA b 4 (i + 2)), jI (hA b 4 (i + 3)), jI (hA b 4 (i + 4)), jI (hA b 4 (i + 5))] rfl rfl rfl fX10_bars kL_154 nX10_bars dL_law_1286 (Nat.le_of_ble_eq_true rfl) I.k10 ?_
  refine u_bars (d := 11) I.1 (fun h1 f1 H1 => ?_)
  obtain ⟨I1, e1, g1⟩ := I.p f1.fr ⟨by decide, by decide⟩ H1
  show jWp 14 mL_law 1289 _ [jI _] h1 Q
  refine wp_aload_n 2 dL_law_1289 rfl ?_
  refine wp_aload_n 0 dL_law_1290 rfl ?_
  refine wp_iload 4 dL_law_1291 rfl ?_
  refine wp_iconst dL_law_1293 ⟨by decide, by decide⟩ ?_
  refine wp_iadd dL_law_1294 ⟨by omega, by omega⟩ ?_
  refine wp_script dL_law_1295 I1.k4 (by omega) (by rw [I1.n4]; omega) (fun _ => ?_)
  rw [I1.sc]
  refine wp_aload_n 0 dL_law_1296 rfl ?_
  refine wp_iload 4 dL_law_1297 rfl ?_
  refine wp_iconst dL_law_1299 ⟨by decide, by decide⟩ ?_
  refine wp_iadd dL_law_1300 ⟨by omega, by omega⟩ ?_
  refine wp_script dL_law_1301 I1.k4 (by omega) (by rw [I1.n4]; omega) (fun _ => ?_)
  rw [I1.sc]
  refine wp_aload_n 0 dL_law_1302 rfl ?_
  refine wp_iload 4 dL_law_1303 rfl ?_
  refine wp_iconst dL_law_1305 ⟨by decide, by decide⟩ ?_
  refine wp_iadd dL_law_1306 ⟨by omega, by omega⟩ ?_
  refine wp_script dL_law_1307 I1.k4 (by omega) (by rw [I1.n4]; omega) (fun _ => ?_)
  rw [I1.sc]
  refine wp_aload_n 0 dL_law_1308 rfl ?_
  refine wp_iload 4 dL_law_1309 rfl ?_
  refine wp_iconst dL_law_1311 ⟨by decide, by decide⟩ ?_
  refine wp_iadd dL_law_1312 ⟨by omega, by omega⟩ ?_
  refine wp_script dL_law_1313 I1.k4 (by omega) (by rw [I1.n4]; omega) (fun _ => ?_)
  rw [I1.sc]
  refine wp_aload_n 0 dL_law_1314 rfl ?_
  refine wp_iload 4 dL_law_1315 rfl ?_
  refine wp_iconst dL_law_1317 ⟨by decide, by decide⟩ ?_
  refine wp_iadd dL_law_1318 ⟨by omega, by omega⟩ ?_
  refine wp_script dL_law_1319 I1.k4 (by omega) (by rw [I1.n4]; omega) (fun _ => ?_)
  rw [I1.sc]
  refine wp_callV (ci := 8) (y' := mX11_bars) (st := [jI _]) [jI (hA b 4 (i + 1)), jI (hA b 4 (i + 2)), jI (hA b 4 (i + 3)), jI (hA b 4 (i + 4)), jI (hA b 4 (i + 5))] rfl rfl rfl fX11_bars kL_157 nX11_bars dL_law_1320 (Nat.le_of_ble_eq_true rfl) I1.k734 ?_
  refine v_bars (d := 12) I1.2.1 (fun h2 f2 H2 => ?_)
  obtain ⟨I2, e2, g2⟩ := I1.m f2 (by decide) H2
  show jWp 14 mL_law 1323 _ [jI _, jI _] h2 Q
  refine wp_icmp_eq 1482 dL_law_1323 rfl (fun _ => ?_) (fun z => absurd rfl z)
  exact k h2 _ I2 (I_bars J _ _ _ _ _) (by omega) (by omega)
theorem lc_25 (I : lwH b h s s) (J : jInv s) (hi : 0 ≤ i ∧ i + 6 ≤ hN b 4) (k : lwK b h i Q) : jWp 14 mL_law 1328 [(0, jR 4), (1, jR 10), (2, jR 734), (3, jR 764), (4, jI i)] [] h Q := by
  have le := I.2.2.2.2.2.2.2.2
  refine wp_aload_n 1 dL_law_1328 rfl ?_
  refine wp_aload_n 0 dL_law_1329 rfl ?_
  refine wp_iload 4 dL_law_1330 rfl ?_
  refine wp_iconst dL_law_1332 ⟨by decide, by decide⟩ ?_
  refine wp_iadd dL_law_1333 ⟨by omega, by omega⟩ ?_
  refine wp_script dL_law_1334 I.k4 (by omega) (by rw [I.n4]; omega) (fun _ => ?_)
  rw [I.sc]
  refine wp_callV (ci := 7) (y' := mX10_cut) (st := []) [jI (hA b 4 (i + 1))] rfl rfl rfl fX10_cut kL_158 nX10_cut dL_law_1335 (Nat.le_of_ble_eq_true rfl) I.k10 ?_
  refine u_cut (d := 12) I.1 (fun h1 f1 H1 => ?_)
  obtain ⟨I1, e1, g1⟩ := I.p f1.fr ⟨by decide, by decide⟩ H1
  show jWp 14 mL_law 1338 _ [jI _] h1 Q
  refine wp_aload_n 2 dL_law_1338 rfl ?_
  refine wp_aload_n 0 dL_law_1339 rfl ?_
  refine wp_iload 4 dL_law_1340 rfl ?_
  refine wp_iconst dL_law_1342 ⟨by decide, by decide⟩ ?_
  refine wp_iadd dL_law_1343 ⟨by omega, by omega⟩ ?_
  refine wp_script dL_law_1344 I1.k4 (by omega) (by rw [I1.n4]; omega) (fun _ => ?_)
  rw [I1.sc]
  refine wp_callV (ci := 8) (y' := mX11_cut) (st := [jI _]) [jI (hA b 4 (i + 1))] rfl rfl rfl fX11_cut kL_161 nX11_cut dL_law_1345 (Nat.le_of_ble_eq_true rfl) I1.k734 ?_
  refine v_cut (d := 13) I1.2.1 (fun h2 f2 H2 => ?_)
  obtain ⟨I2, e2, g2⟩ := I1.m f2 (by decide) H2
  show jWp 14 mL_law 1348 _ [jI _, jI _] h2 Q
  refine wp_icmp_eq 1482 dL_law_1348 rfl (fun _ => ?_) (fun z => absurd rfl z)
  exact k h2 _ I2 (I_cut J _) (by omega) (by omega)
theorem lc_26 (I : lwH b h s s) (J : jInv s) (hi : 0 ≤ i ∧ i + 6 ≤ hN b 4) (k : lwK b h i Q) : jWp 14 mL_law 1353 [(0, jR 4), (1, jR 10), (2, jR 734), (3, jR 764), (4, jI i)] [] h Q := by
  have le := I.2.2.2.2.2.2.2.2
  refine wp_aload_n 1 dL_law_1353 rfl ?_
  refine wp_callV (ci := 7) (y' := mX10_turn) (st := []) [] rfl rfl rfl fX10_turn kL_162 nX10_turn dL_law_1354 (Nat.le_of_ble_eq_true rfl) I.k10 ?_
  refine u_turn (d := 12) I.1 (fun h1 f1 H1 => ?_)
  obtain ⟨I1, e1, g1⟩ := I.p f1.fr ⟨by decide, by decide⟩ H1
  show jWp 14 mL_law 1357 _ [jI _] h1 Q
  refine wp_aload_n 2 dL_law_1357 rfl ?_
  refine wp_callV (ci := 8) (y' := mX11_turn) (st := [jI _]) [] rfl rfl rfl fX11_turn kL_165 nX11_turn dL_law_1358 (Nat.le_of_ble_eq_true rfl) I1.k734 ?_
  refine v_turn (d := 13) I1.2.1 (fun h2 f2 H2 => ?_)
  obtain ⟨I2, e2, g2⟩ := I1.m f2 (by decide) H2
  show jWp 14 mL_law 1361 _ [jI _, jI _] h2 Q
  refine wp_icmp_eq 1482 dL_law_1361 rfl (fun _ => ?_) (fun z => absurd rfl z)
  exact k h2 _ I2 (I_turn J) (by omega) (by omega)
theorem lc_27 (I : lwH b h s s) (J : jInv s) (hi : 0 ≤ i ∧ i + 6 ≤ hN b 4) (k : lwK b h i Q) : jWp 14 mL_law 1366 [(0, jR 4), (1, jR 10), (2, jR 734), (3, jR 764), (4, jI i)] [] h Q := by
  have le := I.2.2.2.2.2.2.2.2
  refine wp_aload_n 1 dL_law_1366 rfl ?_
  refine wp_aload_n 0 dL_law_1367 rfl ?_
  refine wp_iload 4 dL_law_1368 rfl ?_
  refine wp_iconst dL_law_1370 ⟨by decide, by decide⟩ ?_
  refine wp_iadd dL_law_1371 ⟨by omega, by omega⟩ ?_
  refine wp_script dL_law_1372 I.k4 (by omega) (by rw [I.n4]; omega) (fun _ => ?_)
  rw [I.sc]
  refine wp_aload_n 0 dL_law_1373 rfl ?_
  refine wp_iload 4 dL_law_1374 rfl ?_
  refine wp_iconst dL_law_1376 ⟨by decide, by decide⟩ ?_
  refine wp_iadd dL_law_1377 ⟨by omega, by omega⟩ ?_
  refine wp_script dL_law_1378 I.k4 (by omega) (by rw [I.n4]; omega) (fun _ => ?_)
  rw [I.sc]
  refine wp_if_eq 1386 dL_law_1379 rfl (fun zz => ?_) (fun zz => ?_)
  ·
    refine wp_iconst dL_law_1386 ⟨by decide, by decide⟩ ?_
    refine wp_callV (ci := 7) (y' := mX10_ink) (st := []) [jI (hA b 4 (i + 1)), jI 0] rfl rfl rfl fX10_ink kL_166 nX10_ink dL_law_1387 (Nat.le_of_ble_eq_true rfl) I.k10 ?_
    refine u_ink (d := 12) (b := false) I.1 (fun h1 f1 H1 => ?_)
    obtain ⟨I1, e1, g1⟩ := I.p f1.fr ⟨by decide, by decide⟩ H1
    show jWp 14 mL_law 1390 _ [jI _] h1 Q
    refine wp_aload_n 2 dL_law_1390 rfl ?_
    refine wp_aload_n 0 dL_law_1391 rfl ?_
    refine wp_iload 4 dL_law_1392 rfl ?_
    refine wp_iconst dL_law_1394 ⟨by decide, by decide⟩ ?_
    refine wp_iadd dL_law_1395 ⟨by omega, by omega⟩ ?_
    refine wp_script dL_law_1396 I1.k4 (by omega) (by rw [I1.n4]; omega) (fun _ => ?_)
    rw [I1.sc]
    refine wp_aload_n 0 dL_law_1397 rfl ?_
    refine wp_iload 4 dL_law_1398 rfl ?_
    refine wp_iconst dL_law_1400 ⟨by decide, by decide⟩ ?_
    refine wp_iadd dL_law_1401 ⟨by omega, by omega⟩ ?_
    refine wp_script dL_law_1402 I1.k4 (by omega) (by rw [I1.n4]; omega) (fun _ => ?_)
    rw [I1.sc]
    refine wp_if_eq 1410 dL_law_1403 rfl (fun _ => ?_) (fun z => absurd zz z)
    refine wp_iconst dL_law_1410 ⟨by decide, by decide⟩ ?_
    refine wp_callV (ci := 8) (y' := mX11_ink) (st := [jI _]) [jI (hA b 4 (i + 1)), jI 0] rfl rfl rfl fX11_ink kL_170 nX11_ink dL_law_1411 (Nat.le_of_ble_eq_true rfl) I1.k734 ?_
    refine v_ink (d := 13) (b := false) I1.2.1 (fun h2 f2 H2 => ?_)
    obtain ⟨I2, e2, g2⟩ := I1.m f2 (by decide) H2
    show jWp 14 mL_law 1414 _ [jI _, jI _] h2 Q
    refine wp_icmp_eq 1482 dL_law_1414 rfl (fun _ => ?_) (fun z => absurd rfl z)
    exact k h2 _ I2 (I_ink J _ _) (by omega) (by omega)
  ·
    refine wp_iconst dL_law_1382 ⟨by decide, by decide⟩ ?_
    refine wp_goto 1387 dL_law_1383 rfl ?_
    refine wp_callV (ci := 7) (y' := mX10_ink) (st := []) [jI (hA b 4 (i + 1)), jI 1] rfl rfl rfl fX10_ink kL_166 nX10_ink dL_law_1387 (Nat.le_of_ble_eq_true rfl) I.k10 ?_
    refine u_ink (d := 12) (b := true) I.1 (fun h1 f1 H1 => ?_)
    obtain ⟨I1, e1, g1⟩ := I.p f1.fr ⟨by decide, by decide⟩ H1
    show jWp 14 mL_law 1390 _ [jI _] h1 Q
    refine wp_aload_n 2 dL_law_1390 rfl ?_
    refine wp_aload_n 0 dL_law_1391 rfl ?_
    refine wp_iload 4 dL_law_1392 rfl ?_
    refine wp_iconst dL_law_1394 ⟨by decide, by decide⟩ ?_
    refine wp_iadd dL_law_1395 ⟨by omega, by omega⟩ ?_
    refine wp_script dL_law_1396 I1.k4 (by omega) (by rw [I1.n4]; omega) (fun _ => ?_)
    rw [I1.sc]
    refine wp_aload_n 0 dL_law_1397 rfl ?_
    refine wp_iload 4 dL_law_1398 rfl ?_
    refine wp_iconst dL_law_1400 ⟨by decide, by decide⟩ ?_
    refine wp_iadd dL_law_1401 ⟨by omega, by omega⟩ ?_
    refine wp_script dL_law_1402 I1.k4 (by omega) (by rw [I1.n4]; omega) (fun _ => ?_)
    rw [I1.sc]
    refine wp_if_eq 1410 dL_law_1403 rfl (fun z => absurd z zz) (fun _ => ?_)
    refine wp_iconst dL_law_1406 ⟨by decide, by decide⟩ ?_
    refine wp_goto 1411 dL_law_1407 rfl ?_
    refine wp_callV (ci := 8) (y' := mX11_ink) (st := [jI _]) [jI (hA b 4 (i + 1)), jI 1] rfl rfl rfl fX11_ink kL_170 nX11_ink dL_law_1411 (Nat.le_of_ble_eq_true rfl) I1.k734 ?_
    refine v_ink (d := 13) (b := true) I1.2.1 (fun h2 f2 H2 => ?_)
    obtain ⟨I2, e2, g2⟩ := I1.m f2 (by decide) H2
    show jWp 14 mL_law 1414 _ [jI _, jI _] h2 Q
    refine wp_icmp_eq 1482 dL_law_1414 rfl (fun _ => ?_) (fun z => absurd rfl z)
    exact k h2 _ I2 (I_ink J _ _) (by omega) (by omega)
theorem lc_28 (I : lwH b h s s) (J : jInv s) (hi : 0 ≤ i ∧ i + 6 ≤ hN b 4) (k : lwK b h i Q) : jWp 14 mL_law 1419 [(0, jR 4), (1, jR 10), (2, jR 734), (3, jR 764), (4, jI i)] [] h Q := by
  have le := I.2.2.2.2.2.2.2.2
  refine wp_aload_n 1 dL_law_1419 rfl ?_
  refine wp_aload_n 0 dL_law_1420 rfl ?_
  refine wp_iload 4 dL_law_1421 rfl ?_
  refine wp_iconst dL_law_1423 ⟨by decide, by decide⟩ ?_
  refine wp_iadd dL_law_1424 ⟨by omega, by omega⟩ ?_
  refine wp_script dL_law_1425 I.k4 (by omega) (by rw [I.n4]; omega) (fun _ => ?_)
  rw [I.sc]
  refine wp_callV (ci := 7) (y' := mX10_module) (st := []) [jI (hA b 4 (i + 1))] rfl rfl rfl fX10_module kL_171 nX10_module dL_law_1426 (Nat.le_of_ble_eq_true rfl) I.k10 ?_
  refine u_module (d := 12) I.1 ?_
  have e1 : hS h = hS h := rfl
  have g1 : hT h = hT h := rfl
  show jWp 14 mL_law 1429 _ [jI _] h Q
  refine wp_aload_n 2 dL_law_1429 rfl ?_
  refine wp_aload_n 0 dL_law_1430 rfl ?_
  refine wp_iload 4 dL_law_1431 rfl ?_
  refine wp_iconst dL_law_1433 ⟨by decide, by decide⟩ ?_
  refine wp_iadd dL_law_1434 ⟨by omega, by omega⟩ ?_
  refine wp_script dL_law_1435 I.k4 (by omega) (by rw [I.n4]; omega) (fun _ => ?_)
  rw [I.sc]
  refine wp_callV (ci := 8) (y' := mX11_module) (st := [jI _]) [jI (hA b 4 (i + 1))] rfl rfl rfl fX11_module kL_174 nX11_module dL_law_1436 (Nat.le_of_ble_eq_true rfl) I.k734 ?_
  refine v_module (d := 13) I.2.1 (fun h2 f2 H2 => ?_)
  obtain ⟨I2, e2, g2⟩ := I.m f2 (by decide) H2
  show jWp 14 mL_law 1439 _ [jI _, jI _] h2 Q
  refine wp_icmp_eq 1482 dL_law_1439 rfl (fun _ => ?_) (fun z => absurd rfl z)
  exact k h2 _ I2 (J) (by omega) (by omega)
theorem lc_29 (I : lwH b h s s) (J : jInv s) (hi : 0 ≤ i ∧ i + 6 ≤ hN b 4) (k : lwK b h i Q) : jWp 14 mL_law 1444 [(0, jR 4), (1, jR 10), (2, jR 734), (3, jR 764), (4, jI i)] [] h Q := by
  have le := I.2.2.2.2.2.2.2.2
  refine wp_aload_n 1 dL_law_1444 rfl ?_
  refine wp_callV (ci := 7) (y' := mX10_scan) (st := []) [] rfl rfl rfl fX10_scan kL_175 nX10_scan dL_law_1445 (Nat.le_of_ble_eq_true rfl) I.k10 ?_
  refine u_scan (d := 3) J.bits J.clk I.1 (fun h1 f1 H1 => ?_)
  obtain ⟨I1, e1, g1⟩ := I.p f1 ⟨by decide, by decide⟩ H1
  show jWp 14 mL_law 1448 _ [jI _] h1 Q
  refine wp_aload_n 2 dL_law_1448 rfl ?_
  refine wp_callV (ci := 8) (y' := mX11_scan) (st := [jI _]) [] rfl rfl rfl fX11_scan kL_178 nX11_scan dL_law_1449 (Nat.le_of_ble_eq_true rfl) I1.k734 ?_
  refine v_scan (d := 8) J.bits J.clk I1.2.1 (fun h2 f2 H2 => ?_)
  obtain ⟨I2, e2, g2⟩ := I1.m f2 (by decide) H2
  show jWp 14 mL_law 1452 _ [jI _, jI _] h2 Q
  refine wp_icmp_eq 1482 dL_law_1452 rfl (fun _ => ?_) (fun z => absurd rfl z)
  exact k h2 _ I2 (I_scan J) (by omega) (by omega)
theorem lc_30 (I : lwH b h s s) (J : jInv s) (hi : 0 ≤ i ∧ i + 6 ≤ hN b 4) (k : lwK b h i Q) : jWp 14 mL_law 1457 [(0, jR 4), (1, jR 10), (2, jR 734), (3, jR 764), (4, jI i)] [] h Q := by
  have le := I.2.2.2.2.2.2.2.2
  refine wp_aload_n 1 dL_law_1457 rfl ?_
  refine wp_aload_n 0 dL_law_1458 rfl ?_
  refine wp_iload 4 dL_law_1459 rfl ?_
  refine wp_iconst dL_law_1461 ⟨by decide, by decide⟩ ?_
  refine wp_iadd dL_law_1462 ⟨by omega, by omega⟩ ?_
  refine wp_script dL_law_1463 I.k4 (by omega) (by rw [I.n4]; omega) (fun _ => ?_)
  rw [I.sc]
  refine wp_callV (ci := 7) (y' := mX10_scanned) (st := []) [jI (hA b 4 (i + 1))] rfl rfl rfl fX10_scanned kL_179 nX10_scanned dL_law_1464 (Nat.le_of_ble_eq_true rfl) I.k10 ?_
  refine u_scanned (d := 13) J.scn I.1 ?_
  have e1 : hS h = hS h := rfl
  have g1 : hT h = hT h := rfl
  show jWp 14 mL_law 1467 _ [jI _] h Q
  refine wp_aload_n 2 dL_law_1467 rfl ?_
  refine wp_aload_n 0 dL_law_1468 rfl ?_
  refine wp_iload 4 dL_law_1469 rfl ?_
  refine wp_iconst dL_law_1471 ⟨by decide, by decide⟩ ?_
  refine wp_iadd dL_law_1472 ⟨by omega, by omega⟩ ?_
  refine wp_script dL_law_1473 I.k4 (by omega) (by rw [I.n4]; omega) (fun _ => ?_)
  rw [I.sc]
  refine wp_callV (ci := 8) (y' := mX11_scanned) (st := [jI _]) [jI (hA b 4 (i + 1))] rfl rfl rfl fX11_scanned kL_182 nX11_scanned dL_law_1474 (Nat.le_of_ble_eq_true rfl) I.k734 ?_
  refine v_scanned (d := 13) J.scn I.2.1 (fun h2 f2 H2 => ?_)
  obtain ⟨I2, e2, g2⟩ := I.m f2 (by decide) H2
  show jWp 14 mL_law 1477 _ [jI _, jI _] h2 Q
  refine wp_icmp_eq 1482 dL_law_1477 rfl (fun _ => ?_) (fun z => absurd rfl z)
  exact k h2 _ I2 (J) (by omega) (by omega)
end LC
