/-! THE LAW: its cases that may throw (made by wip/whole/gen/genlaw2.py) -/
section LD
variable {b h : jH} {s : jP} {Q : jO → jH → Prop} {i : Int}
theorem lwH.v {h1 : jH} {t : jP} (_ : lwH b h s t) {fs as : List Nat} (f : mFr 734 fs as h h1) (has : ∀ a ∈ as, a < 30) : hA h1 764 0 = hA h 764 0 := (((f.fr has).2.2.2.2 764 (by omega)).2 0).1
theorem lw_b2 (b : Bool) : b2i b = 0 ∨ b2i b = 1 := by cases b <;> decide
theorem cmp0 (v : Int) : (if v < v then (1 : Int) else if v = v then 0 else -1) = 0 := by rw [if_neg (by omega), if_pos rfl]
theorem lc_7 (I : lwH b h s s) (J : jInv s) (hi : 0 ≤ i ∧ i + 6 ≤ hN b 4) (k : lwK b h i Q) : jWp 14 mL_law 407 [(0, jR 4), (1, jR 10), (2, jR 734), (3, jR 764), (4, jI i)] [] h Q := by
  have le := I.2.2.2.2.2.2.2.2
  refine wp_aload_n 1 dL_law_407 rfl ?_
  refine wp_aload_n 0 dL_law_408 rfl ?_
  refine wp_iload 4 dL_law_409 rfl ?_
  refine wp_iconst dL_law_411 ⟨by decide, by decide⟩ ?_
  refine wp_iadd dL_law_412 ⟨by omega, by omega⟩ ?_
  refine wp_script dL_law_413 I.k4 (by omega) (by rw [I.n4]; omega) (fun _ => ?_)
  rw [I.sc]
  refine wp_aload_n 0 dL_law_414 rfl ?_
  refine wp_iload 4 dL_law_415 rfl ?_
  refine wp_iconst dL_law_417 ⟨by decide, by decide⟩ ?_
  refine wp_iadd dL_law_418 ⟨by omega, by omega⟩ ?_
  refine wp_script dL_law_419 I.k4 (by omega) (by rw [I.n4]; omega) (fun _ => ?_)
  rw [I.sc]
  refine wp_aload_n 3 dL_law_420 rfl ?_
  refine wp_callS (y' := mL_element) (st := []) [jR 10, jI (hA b 4 (i + 1)), jI (hA b 4 (i + 2)), jR 764] rfl fL_element kL_88 nL_element dL_law_421 (Nat.le_of_ble_eq_true rfl) ?_
  refine l_element (d := 12) (P := fun r h' => (∃ v, r = .inl (some (jI v)) ∧ hK h' 764 = 13 ∧ 0 < hN h' 764 ∧ jAft 14 mL_law 421 [(0, jR 4), (1, jR 10), (2, jR 734), (3, jR 764), (4, jI i)] [] Q (.inl (some (jI 0))) (sA h' 764 0 v)) ∨ (r = .inr "java/lang/IndexOutOfBoundsException" ∧ jAft 14 mL_law 421 [(0, jR 4), (1, jR 10), (2, jR 734), (3, jR 764), (4, jI i)] [] Q (.inl (some (jI 1))) h')) I.k10 (u_element (d := 5) I.1 (fun z => .inr ⟨rfl, ?_⟩) (fun z0 z1 => .inl ⟨_, rfl, I.2.2.1, by rw [I.2.2.2.1]; decide, ?_⟩)) (fun r h' p => p)
  ·
    have I1 := I.x
    have e1 : hS (sN h 16 0 6) = hS h + 1 := rfl
    have g1 : hT (sN h 16 0 6) = hT h + 6 := rfl
    show jWp 14 mL_law 424 [(0, jR 4), (1, jR 10), (2, jR 734), (3, jR 764), (4, jI i)] [jI 1] _ Q
    refine wp_istore [1, 2, 3, 4, 5, 0] (ls' := [(0, jR 4), (1, jR 10), (2, jR 734), (3, jR 764), (4, jI i), (5, jI 1)]) dL_law_424 (by decide) rfl ?_
    refine wp_aload_n 2 dL_law_426 rfl ?_
    refine wp_aload_n 0 dL_law_427 rfl ?_
    refine wp_iload 4 dL_law_428 rfl ?_
    refine wp_iconst dL_law_430 ⟨by decide, by decide⟩ ?_
    refine wp_iadd dL_law_431 ⟨by omega, by omega⟩ ?_
    refine wp_script dL_law_432 I1.k4 (by omega) (by rw [I1.n4]; omega) (fun _ => ?_)
    rw [I1.sc]
    refine wp_aload_n 0 dL_law_433 rfl ?_
    refine wp_iload 4 dL_law_434 rfl ?_
    refine wp_iconst dL_law_436 ⟨by decide, by decide⟩ ?_
    refine wp_iadd dL_law_437 ⟨by omega, by omega⟩ ?_
    refine wp_script dL_law_438 I1.k4 (by omega) (by rw [I1.n4]; omega) (fun _ => ?_)
    rw [I1.sc]
    refine wp_callV (ci := 8) (y' := mX11_element) (st := []) [jI (hA b 4 (i + 1)), jI (hA b 4 (i + 2))] rfl rfl rfl fX11_element kL_93 nX11_element dL_law_439 (Nat.le_of_ble_eq_true rfl) I1.k734 ?_
    refine n_element (d := 11) I1.2.1.1 I1.2.1.2.1 I1.2.1.2.2.2.2.2.2.1.1 (fun y h2 f2 t2 => ?_) (fun y0 y1 h2 f2 t2 => by exfalso; omega)
    have H2 := md_same I1.2.1 f2 (by decide) (by decide)
    obtain ⟨I2, e2, g2⟩ := I1.m f2 (by decide) H2
    show jWp 14 mL_law 442 [(0, jR 4), (1, jR 10), (2, jR 734), (3, jR 764), (4, jI i), (5, jI 1)] [jI _] h2 Q
    refine wp_istore [1, 2, 3, 4, 5, 6, 0] (ls' := [(0, jR 4), (1, jR 10), (2, jR 734), (3, jR 764), (4, jI i), (5, jI 1), (6, jI _)]) dL_law_442 (by decide) rfl ?_
    refine wp_aload_n 2 dL_law_444 rfl ?_
    refine wp_callV (ci := 8) (y' := mX11_thrown) (st := []) [] rfl rfl rfl fX11_thrown kL_94 nX11_thrown dL_law_445 (Nat.le_of_ble_eq_true rfl) I2.k734 ?_
    refine n_thrown I2.2.1.1 ?_
    rw [t2]
    show jWp 14 mL_law 448 [(0, jR 4), (1, jR 10), (2, jR 734), (3, jR 764), (4, jI i), (5, jI 1), (6, jI _)] [jI 1] h2 Q
    refine wp_iload 5 dL_law_448 rfl ?_
    refine wp_icmp_eq 455 dL_law_450 rfl (fun _ => ?_) (fun q => absurd rfl q)
    refine wp_iload 5 dL_law_455 rfl ?_
    refine wp_if_ne 472 dL_law_457 rfl (fun _ => ?_) (fun q => absurd q (by decide))
    refine wp_goto 1482 dL_law_472 rfl ?_
    refine wp_sub [0, 1, 2, 3, 4] (ls' := [(0, jR 4), (1, jR 10), (2, jR 734), (3, jR 764), (4, jI i)]) rfl ?_
    exact k h2 _ I2 (J) (by omega) (by omega)
  ·
    have I1 := I.o (elemV (s.2.1.1.getD (hA b 4 (i + 1)).toNat dE) (hA b 4 (i + 2)))
    have e1 : hS (sA h 764 0 (elemV (s.2.1.1.getD (hA b 4 (i + 1)).toNat dE) (hA b 4 (i + 2)))) = hS h := rfl
    have g1 : hT (sA h 764 0 (elemV (s.2.1.1.getD (hA b 4 (i + 1)).toNat dE) (hA b 4 (i + 2)))) = hT h := rfl
    show jWp 14 mL_law 424 [(0, jR 4), (1, jR 10), (2, jR 734), (3, jR 764), (4, jI i)] [jI 0] _ Q
    refine wp_istore [1, 2, 3, 4, 5, 0] (ls' := [(0, jR 4), (1, jR 10), (2, jR 734), (3, jR 764), (4, jI i), (5, jI 0)]) dL_law_424 (by decide) rfl ?_
    refine wp_aload_n 2 dL_law_426 rfl ?_
    refine wp_aload_n 0 dL_law_427 rfl ?_
    refine wp_iload 4 dL_law_428 rfl ?_
    refine wp_iconst dL_law_430 ⟨by decide, by decide⟩ ?_
    refine wp_iadd dL_law_431 ⟨by omega, by omega⟩ ?_
    refine wp_script dL_law_432 I1.k4 (by omega) (by rw [I1.n4]; omega) (fun _ => ?_)
    rw [I1.sc]
    refine wp_aload_n 0 dL_law_433 rfl ?_
    refine wp_iload 4 dL_law_434 rfl ?_
    refine wp_iconst dL_law_436 ⟨by decide, by decide⟩ ?_
    refine wp_iadd dL_law_437 ⟨by omega, by omega⟩ ?_
    refine wp_script dL_law_438 I1.k4 (by omega) (by rw [I1.n4]; omega) (fun _ => ?_)
    rw [I1.sc]
    refine wp_callV (ci := 8) (y' := mX11_element) (st := []) [jI (hA b 4 (i + 1)), jI (hA b 4 (i + 2))] rfl rfl rfl fX11_element kL_93 nX11_element dL_law_439 (Nat.le_of_ble_eq_true rfl) I1.k734 ?_
    refine n_element (d := 11) I1.2.1.1 I1.2.1.2.1 I1.2.1.2.2.2.2.2.2.1.1 (fun y h2 f2 t2 => by exfalso; omega) (fun y0 y1 h2 f2 t2 => ?_)
    have H2 := md_same I1.2.1 f2 (by decide) (by decide)
    have ev := I1.v f2 (by decide)
    obtain ⟨I2, e2, g2⟩ := I1.m f2 (by decide) H2
    show jWp 14 mL_law 442 [(0, jR 4), (1, jR 10), (2, jR 734), (3, jR 764), (4, jI i), (5, jI 0)] [jI _] h2 Q
    refine wp_istore [1, 2, 3, 4, 5, 6, 0] (ls' := [(0, jR 4), (1, jR 10), (2, jR 734), (3, jR 764), (4, jI i), (5, jI 0), (6, jI _)]) dL_law_442 (by decide) rfl ?_
    refine wp_aload_n 2 dL_law_444 rfl ?_
    refine wp_callV (ci := 8) (y' := mX11_thrown) (st := []) [] rfl rfl rfl fX11_thrown kL_94 nX11_thrown dL_law_445 (Nat.le_of_ble_eq_true rfl) I2.k734 ?_
    refine n_thrown I2.2.1.1 ?_
    rw [t2]
    show jWp 14 mL_law 448 [(0, jR 4), (1, jR 10), (2, jR 734), (3, jR 764), (4, jI i), (5, jI 0), (6, jI _)] [jI 0] h2 Q
    refine wp_iload 5 dL_law_448 rfl ?_
    refine wp_icmp_eq 455 dL_law_450 rfl (fun _ => ?_) (fun q => absurd rfl q)
    refine wp_iload 5 dL_law_455 rfl ?_
    refine wp_if_ne 472 dL_law_457 rfl (fun q => absurd rfl q) (fun _ => ?_)
    refine wp_aload_n 3 dL_law_460 rfl ?_
    refine wp_iconst dL_law_461 ⟨by decide, by decide⟩ ?_
    refine wp_laload dL_law_462 I2.2.2.1 (by decide) (by rw [I2.2.2.2.1]; decide) (fun _ => ?_)
    rw [ev, hA_sA, if_pos ⟨rfl, rfl⟩]
    refine wp_iload 6 dL_law_463 rfl ?_
    refine wp_i2l dL_law_465 ?_
    refine wp_lcmp dL_law_466 ?_
    rw [cmp0]
    refine wp_if_eq 472 dL_law_467 rfl (fun _ => ?_) (fun q => absurd rfl q)
    refine wp_goto 1482 dL_law_472 rfl ?_
    refine wp_sub [0, 1, 2, 3, 4] (ls' := [(0, jR 4), (1, jR 10), (2, jR 734), (3, jR 764), (4, jI i)]) rfl ?_
    exact k h2 _ I2 (J) (by omega) (by omega)
theorem lc_8 (I : lwH b h s s) (J : jInv s) (hi : 0 ≤ i ∧ i + 6 ≤ hN b 4) (k : lwK b h i Q) : jWp 14 mL_law 475 [(0, jR 4), (1, jR 10), (2, jR 734), (3, jR 764), (4, jI i)] [] h Q := by
  have le := I.2.2.2.2.2.2.2.2
  refine wp_aload_n 1 dL_law_475 rfl ?_
  refine wp_aload_n 0 dL_law_476 rfl ?_
  refine wp_iload 4 dL_law_477 rfl ?_
  refine wp_iconst dL_law_479 ⟨by decide, by decide⟩ ?_
  refine wp_iadd dL_law_480 ⟨by omega, by omega⟩ ?_
  refine wp_script dL_law_481 I.k4 (by omega) (by rw [I.n4]; omega) (fun _ => ?_)
  rw [I.sc]
  refine wp_aload_n 0 dL_law_482 rfl ?_
  refine wp_iload 4 dL_law_483 rfl ?_
  refine wp_iconst dL_law_485 ⟨by decide, by decide⟩ ?_
  refine wp_iadd dL_law_486 ⟨by omega, by omega⟩ ?_
  refine wp_script dL_law_487 I.k4 (by omega) (by rw [I.n4]; omega) (fun _ => ?_)
  rw [I.sc]
  refine wp_aload_n 3 dL_law_488 rfl ?_
  refine wp_callS (y' := mL_letter) (st := []) [jR 10, jI (hA b 4 (i + 1)), jI (hA b 4 (i + 2)), jR 764] rfl fL_letter kL_97 nL_letter dL_law_489 (Nat.le_of_ble_eq_true rfl) ?_
  refine l_letter (d := 12) (P := fun r h' => (∃ v, r = .inl (some (jI v)) ∧ hK h' 764 = 13 ∧ 0 < hN h' 764 ∧ jAft 14 mL_law 489 [(0, jR 4), (1, jR 10), (2, jR 734), (3, jR 764), (4, jI i)] [] Q (.inl (some (jI 0))) (sA h' 764 0 v)) ∨ (r = .inr "java/lang/IndexOutOfBoundsException" ∧ jAft 14 mL_law 489 [(0, jR 4), (1, jR 10), (2, jR 734), (3, jR 764), (4, jI i)] [] Q (.inl (some (jI 1))) h')) I.k10 (u_letter (d := 5) I.1 (fun z => .inr ⟨rfl, ?_⟩) (fun z0 z1 => .inl ⟨_, rfl, I.2.2.1, by rw [I.2.2.2.1]; decide, ?_⟩)) (fun r h' p => p)
  ·
    have I1 := I.x
    have e1 : hS (sN h 16 0 6) = hS h + 1 := rfl
    have g1 : hT (sN h 16 0 6) = hT h + 6 := rfl
    show jWp 14 mL_law 492 [(0, jR 4), (1, jR 10), (2, jR 734), (3, jR 764), (4, jI i)] [jI 1] _ Q
    refine wp_istore [1, 2, 3, 4, 5, 0] (ls' := [(0, jR 4), (1, jR 10), (2, jR 734), (3, jR 764), (4, jI i), (5, jI 1)]) dL_law_492 (by decide) rfl ?_
    refine wp_aload_n 2 dL_law_494 rfl ?_
    refine wp_aload_n 0 dL_law_495 rfl ?_
    refine wp_iload 4 dL_law_496 rfl ?_
    refine wp_iconst dL_law_498 ⟨by decide, by decide⟩ ?_
    refine wp_iadd dL_law_499 ⟨by omega, by omega⟩ ?_
    refine wp_script dL_law_500 I1.k4 (by omega) (by rw [I1.n4]; omega) (fun _ => ?_)
    rw [I1.sc]
    refine wp_aload_n 0 dL_law_501 rfl ?_
    refine wp_iload 4 dL_law_502 rfl ?_
    refine wp_iconst dL_law_504 ⟨by decide, by decide⟩ ?_
    refine wp_iadd dL_law_505 ⟨by omega, by omega⟩ ?_
    refine wp_script dL_law_506 I1.k4 (by omega) (by rw [I1.n4]; omega) (fun _ => ?_)
    rw [I1.sc]
    refine wp_callV (ci := 8) (y' := mX11_letter) (st := []) [jI (hA b 4 (i + 1)), jI (hA b 4 (i + 2))] rfl rfl rfl fX11_letter kL_99 nX11_letter dL_law_507 (Nat.le_of_ble_eq_true rfl) I1.k734 ?_
    refine n_letter (d := 11) I1.2.1.1 I1.2.1.2.1 I1.2.1.2.2.2.2.2.2.1.1 (fun y h2 f2 t2 => ?_) (fun y0 y1 h2 f2 t2 => by exfalso; omega)
    have H2 := md_same I1.2.1 f2 (by decide) (by decide)
    obtain ⟨I2, e2, g2⟩ := I1.m f2 (by decide) H2
    show jWp 14 mL_law 510 [(0, jR 4), (1, jR 10), (2, jR 734), (3, jR 764), (4, jI i), (5, jI 1)] [jI _] h2 Q
    refine wp_istore [1, 2, 3, 4, 5, 6, 0] (ls' := [(0, jR 4), (1, jR 10), (2, jR 734), (3, jR 764), (4, jI i), (5, jI 1), (6, jI _)]) dL_law_510 (by decide) rfl ?_
    refine wp_aload_n 2 dL_law_512 rfl ?_
    refine wp_callV (ci := 8) (y' := mX11_thrown) (st := []) [] rfl rfl rfl fX11_thrown kL_94 nX11_thrown dL_law_513 (Nat.le_of_ble_eq_true rfl) I2.k734 ?_
    refine n_thrown I2.2.1.1 ?_
    rw [t2]
    show jWp 14 mL_law 516 [(0, jR 4), (1, jR 10), (2, jR 734), (3, jR 764), (4, jI i), (5, jI 1), (6, jI _)] [jI 1] h2 Q
    refine wp_iload 5 dL_law_516 rfl ?_
    refine wp_icmp_eq 523 dL_law_518 rfl (fun _ => ?_) (fun q => absurd rfl q)
    refine wp_iload 5 dL_law_523 rfl ?_
    refine wp_if_ne 540 dL_law_525 rfl (fun _ => ?_) (fun q => absurd q (by decide))
    refine wp_goto 1482 dL_law_540 rfl ?_
    refine wp_sub [0, 1, 2, 3, 4] (ls' := [(0, jR 4), (1, jR 10), (2, jR 734), (3, jR 764), (4, jI i)]) rfl ?_
    exact k h2 _ I2 (J) (by omega) (by omega)
  ·
    have I1 := I.o (lAt (s.2.1.1.getD (hA b 4 (i + 1)).toNat dE).2.2.1 (hA b 4 (i + 2)))
    have e1 : hS (sA h 764 0 (lAt (s.2.1.1.getD (hA b 4 (i + 1)).toNat dE).2.2.1 (hA b 4 (i + 2)))) = hS h := rfl
    have g1 : hT (sA h 764 0 (lAt (s.2.1.1.getD (hA b 4 (i + 1)).toNat dE).2.2.1 (hA b 4 (i + 2)))) = hT h := rfl
    show jWp 14 mL_law 492 [(0, jR 4), (1, jR 10), (2, jR 734), (3, jR 764), (4, jI i)] [jI 0] _ Q
    refine wp_istore [1, 2, 3, 4, 5, 0] (ls' := [(0, jR 4), (1, jR 10), (2, jR 734), (3, jR 764), (4, jI i), (5, jI 0)]) dL_law_492 (by decide) rfl ?_
    refine wp_aload_n 2 dL_law_494 rfl ?_
    refine wp_aload_n 0 dL_law_495 rfl ?_
    refine wp_iload 4 dL_law_496 rfl ?_
    refine wp_iconst dL_law_498 ⟨by decide, by decide⟩ ?_
    refine wp_iadd dL_law_499 ⟨by omega, by omega⟩ ?_
    refine wp_script dL_law_500 I1.k4 (by omega) (by rw [I1.n4]; omega) (fun _ => ?_)
    rw [I1.sc]
    refine wp_aload_n 0 dL_law_501 rfl ?_
    refine wp_iload 4 dL_law_502 rfl ?_
    refine wp_iconst dL_law_504 ⟨by decide, by decide⟩ ?_
    refine wp_iadd dL_law_505 ⟨by omega, by omega⟩ ?_
    refine wp_script dL_law_506 I1.k4 (by omega) (by rw [I1.n4]; omega) (fun _ => ?_)
    rw [I1.sc]
    refine wp_callV (ci := 8) (y' := mX11_letter) (st := []) [jI (hA b 4 (i + 1)), jI (hA b 4 (i + 2))] rfl rfl rfl fX11_letter kL_99 nX11_letter dL_law_507 (Nat.le_of_ble_eq_true rfl) I1.k734 ?_
    refine n_letter (d := 11) I1.2.1.1 I1.2.1.2.1 I1.2.1.2.2.2.2.2.2.1.1 (fun y h2 f2 t2 => by exfalso; omega) (fun y0 y1 h2 f2 t2 => ?_)
    have H2 := md_same I1.2.1 f2 (by decide) (by decide)
    have ev := I1.v f2 (by decide)
    obtain ⟨I2, e2, g2⟩ := I1.m f2 (by decide) H2
    show jWp 14 mL_law 510 [(0, jR 4), (1, jR 10), (2, jR 734), (3, jR 764), (4, jI i), (5, jI 0)] [jI _] h2 Q
    refine wp_istore [1, 2, 3, 4, 5, 6, 0] (ls' := [(0, jR 4), (1, jR 10), (2, jR 734), (3, jR 764), (4, jI i), (5, jI 0), (6, jI _)]) dL_law_510 (by decide) rfl ?_
    refine wp_aload_n 2 dL_law_512 rfl ?_
    refine wp_callV (ci := 8) (y' := mX11_thrown) (st := []) [] rfl rfl rfl fX11_thrown kL_94 nX11_thrown dL_law_513 (Nat.le_of_ble_eq_true rfl) I2.k734 ?_
    refine n_thrown I2.2.1.1 ?_
    rw [t2]
    show jWp 14 mL_law 516 [(0, jR 4), (1, jR 10), (2, jR 734), (3, jR 764), (4, jI i), (5, jI 0), (6, jI _)] [jI 0] h2 Q
    refine wp_iload 5 dL_law_516 rfl ?_
    refine wp_icmp_eq 523 dL_law_518 rfl (fun _ => ?_) (fun q => absurd rfl q)
    refine wp_iload 5 dL_law_523 rfl ?_
    refine wp_if_ne 540 dL_law_525 rfl (fun q => absurd rfl q) (fun _ => ?_)
    refine wp_aload_n 3 dL_law_528 rfl ?_
    refine wp_iconst dL_law_529 ⟨by decide, by decide⟩ ?_
    refine wp_laload dL_law_530 I2.2.2.1 (by decide) (by rw [I2.2.2.2.1]; decide) (fun _ => ?_)
    rw [ev, hA_sA, if_pos ⟨rfl, rfl⟩]
    refine wp_iload 6 dL_law_531 rfl ?_
    refine wp_i2l dL_law_533 ?_
    refine wp_lcmp dL_law_534 ?_
    rw [cmp0]
    refine wp_if_eq 540 dL_law_535 rfl (fun _ => ?_) (fun q => absurd rfl q)
    refine wp_goto 1482 dL_law_540 rfl ?_
    refine wp_sub [0, 1, 2, 3, 4] (ls' := [(0, jR 4), (1, jR 10), (2, jR 734), (3, jR 764), (4, jI i)]) rfl ?_
    exact k h2 _ I2 (J) (by omega) (by omega)
theorem lc_9 (I : lwH b h s s) (J : jInv s) (hi : 0 ≤ i ∧ i + 6 ≤ hN b 4) (k : lwK b h i Q) : jWp 14 mL_law 543 [(0, jR 4), (1, jR 10), (2, jR 734), (3, jR 764), (4, jI i)] [] h Q := by
  have le := I.2.2.2.2.2.2.2.2
  refine wp_aload_n 1 dL_law_543 rfl ?_
  refine wp_aload_n 0 dL_law_544 rfl ?_
  refine wp_iload 4 dL_law_545 rfl ?_
  refine wp_iconst dL_law_547 ⟨by decide, by decide⟩ ?_
  refine wp_iadd dL_law_548 ⟨by omega, by omega⟩ ?_
  refine wp_script dL_law_549 I.k4 (by omega) (by rw [I.n4]; omega) (fun _ => ?_)
  rw [I.sc]
  refine wp_aload_n 0 dL_law_550 rfl ?_
  refine wp_iload 4 dL_law_551 rfl ?_
  refine wp_iconst dL_law_553 ⟨by decide, by decide⟩ ?_
  refine wp_iadd dL_law_554 ⟨by omega, by omega⟩ ?_
  refine wp_script dL_law_555 I.k4 (by omega) (by rw [I.n4]; omega) (fun _ => ?_)
  rw [I.sc]
  refine wp_aload_n 0 dL_law_556 rfl ?_
  refine wp_iload 4 dL_law_557 rfl ?_
  refine wp_iconst dL_law_559 ⟨by decide, by decide⟩ ?_
  refine wp_iadd dL_law_560 ⟨by omega, by omega⟩ ?_
  refine wp_script dL_law_561 I.k4 (by omega) (by rw [I.n4]; omega) (fun _ => ?_)
  rw [I.sc]
  refine wp_aload_n 3 dL_law_562 rfl ?_
  refine wp_callS (y' := mL_part) (st := []) [jR 10, jI (hA b 4 (i + 1)), jI (hA b 4 (i + 2)), jI (hA b 4 (i + 3)), jR 764] rfl fL_part kL_100 nL_part dL_law_563 (Nat.le_of_ble_eq_true rfl) ?_
  refine l_part (d := 12) (P := fun r h' => (∃ v, r = .inl (some (jI v)) ∧ hK h' 764 = 13 ∧ 0 < hN h' 764 ∧ jAft 14 mL_law 563 [(0, jR 4), (1, jR 10), (2, jR 734), (3, jR 764), (4, jI i)] [] Q (.inl (some (jI 0))) (sA h' 764 0 v)) ∨ (r = .inr "java/lang/IndexOutOfBoundsException" ∧ jAft 14 mL_law 563 [(0, jR 4), (1, jR 10), (2, jR 734), (3, jR 764), (4, jI i)] [] Q (.inl (some (jI 1))) h')) I.k10 (u_part (d := 5) I.1 (fun z => .inr ⟨rfl, ?_⟩) (fun z0 z1 => .inl ⟨_, rfl, I.2.2.1, by rw [I.2.2.2.1]; decide, ?_⟩)) (fun r h' p => p)
  ·
    have I1 := I.x
    have e1 : hS (sN h 16 0 6) = hS h + 1 := rfl
    have g1 : hT (sN h 16 0 6) = hT h + 6 := rfl
    show jWp 14 mL_law 566 [(0, jR 4), (1, jR 10), (2, jR 734), (3, jR 764), (4, jI i)] [jI 1] _ Q
    refine wp_istore [1, 2, 3, 4, 5, 0] (ls' := [(0, jR 4), (1, jR 10), (2, jR 734), (3, jR 764), (4, jI i), (5, jI 1)]) dL_law_566 (by decide) rfl ?_
    refine wp_aload_n 2 dL_law_568 rfl ?_
    refine wp_aload_n 0 dL_law_569 rfl ?_
    refine wp_iload 4 dL_law_570 rfl ?_
    refine wp_iconst dL_law_572 ⟨by decide, by decide⟩ ?_
    refine wp_iadd dL_law_573 ⟨by omega, by omega⟩ ?_
    refine wp_script dL_law_574 I1.k4 (by omega) (by rw [I1.n4]; omega) (fun _ => ?_)
    rw [I1.sc]
    refine wp_aload_n 0 dL_law_575 rfl ?_
    refine wp_iload 4 dL_law_576 rfl ?_
    refine wp_iconst dL_law_578 ⟨by decide, by decide⟩ ?_
    refine wp_iadd dL_law_579 ⟨by omega, by omega⟩ ?_
    refine wp_script dL_law_580 I1.k4 (by omega) (by rw [I1.n4]; omega) (fun _ => ?_)
    rw [I1.sc]
    refine wp_aload_n 0 dL_law_581 rfl ?_
    refine wp_iload 4 dL_law_582 rfl ?_
    refine wp_iconst dL_law_584 ⟨by decide, by decide⟩ ?_
    refine wp_iadd dL_law_585 ⟨by omega, by omega⟩ ?_
    refine wp_script dL_law_586 I1.k4 (by omega) (by rw [I1.n4]; omega) (fun _ => ?_)
    rw [I1.sc]
    refine wp_callV (ci := 8) (y' := mX11_part) (st := []) [jI (hA b 4 (i + 1)), jI (hA b 4 (i + 2)), jI (hA b 4 (i + 3))] rfl rfl rfl fX11_part kL_103 nX11_part dL_law_587 (Nat.le_of_ble_eq_true rfl) I1.k734 ?_
    refine n_part (d := 11) I1.2.1.1 I1.2.1.2.1 I1.2.1.2.2.2.2.2.2.1.1 (fun y h2 f2 t2 => ?_) (fun y0 y1 h2 f2 t2 => by exfalso; omega)
    have H2 := md_same I1.2.1 f2 (by decide) (by decide)
    obtain ⟨I2, e2, g2⟩ := I1.m f2 (by decide) H2
    show jWp 14 mL_law 590 [(0, jR 4), (1, jR 10), (2, jR 734), (3, jR 764), (4, jI i), (5, jI 1)] [jI _] h2 Q
    refine wp_istore [1, 2, 3, 4, 5, 6, 0] (ls' := [(0, jR 4), (1, jR 10), (2, jR 734), (3, jR 764), (4, jI i), (5, jI 1), (6, jI _)]) dL_law_590 (by decide) rfl ?_
    refine wp_aload_n 2 dL_law_592 rfl ?_
    refine wp_callV (ci := 8) (y' := mX11_thrown) (st := []) [] rfl rfl rfl fX11_thrown kL_94 nX11_thrown dL_law_593 (Nat.le_of_ble_eq_true rfl) I2.k734 ?_
    refine n_thrown I2.2.1.1 ?_
    rw [t2]
    show jWp 14 mL_law 596 [(0, jR 4), (1, jR 10), (2, jR 734), (3, jR 764), (4, jI i), (5, jI 1), (6, jI _)] [jI 1] h2 Q
    refine wp_iload 5 dL_law_596 rfl ?_
    refine wp_icmp_eq 603 dL_law_598 rfl (fun _ => ?_) (fun q => absurd rfl q)
    refine wp_iload 5 dL_law_603 rfl ?_
    refine wp_if_ne 620 dL_law_605 rfl (fun _ => ?_) (fun q => absurd q (by decide))
    refine wp_goto 1482 dL_law_620 rfl ?_
    refine wp_sub [0, 1, 2, 3, 4] (ls' := [(0, jR 4), (1, jR 10), (2, jR 734), (3, jR 764), (4, jI i)]) rfl ?_
    exact k h2 _ I2 (J) (by omega) (by omega)
  ·
    have I1 := I.o (partW (s.2.1.1.getD (hA b 4 (i + 1)).toNat dE) (hA b 4 (i + 2)) (hA b 4 (i + 3)))
    have e1 : hS (sA h 764 0 (partW (s.2.1.1.getD (hA b 4 (i + 1)).toNat dE) (hA b 4 (i + 2)) (hA b 4 (i + 3)))) = hS h := rfl
    have g1 : hT (sA h 764 0 (partW (s.2.1.1.getD (hA b 4 (i + 1)).toNat dE) (hA b 4 (i + 2)) (hA b 4 (i + 3)))) = hT h := rfl
    show jWp 14 mL_law 566 [(0, jR 4), (1, jR 10), (2, jR 734), (3, jR 764), (4, jI i)] [jI 0] _ Q
    refine wp_istore [1, 2, 3, 4, 5, 0] (ls' := [(0, jR 4), (1, jR 10), (2, jR 734), (3, jR 764), (4, jI i), (5, jI 0)]) dL_law_566 (by decide) rfl ?_
    refine wp_aload_n 2 dL_law_568 rfl ?_
    refine wp_aload_n 0 dL_law_569 rfl ?_
    refine wp_iload 4 dL_law_570 rfl ?_
    refine wp_iconst dL_law_572 ⟨by decide, by decide⟩ ?_
    refine wp_iadd dL_law_573 ⟨by omega, by omega⟩ ?_
    refine wp_script dL_law_574 I1.k4 (by omega) (by rw [I1.n4]; omega) (fun _ => ?_)
    rw [I1.sc]
    refine wp_aload_n 0 dL_law_575 rfl ?_
    refine wp_iload 4 dL_law_576 rfl ?_
    refine wp_iconst dL_law_578 ⟨by decide, by decide⟩ ?_
    refine wp_iadd dL_law_579 ⟨by omega, by omega⟩ ?_
    refine wp_script dL_law_580 I1.k4 (by omega) (by rw [I1.n4]; omega) (fun _ => ?_)
    rw [I1.sc]
    refine wp_aload_n 0 dL_law_581 rfl ?_
    refine wp_iload 4 dL_law_582 rfl ?_
    refine wp_iconst dL_law_584 ⟨by decide, by decide⟩ ?_
    refine wp_iadd dL_law_585 ⟨by omega, by omega⟩ ?_
    refine wp_script dL_law_586 I1.k4 (by omega) (by rw [I1.n4]; omega) (fun _ => ?_)
    rw [I1.sc]
    refine wp_callV (ci := 8) (y' := mX11_part) (st := []) [jI (hA b 4 (i + 1)), jI (hA b 4 (i + 2)), jI (hA b 4 (i + 3))] rfl rfl rfl fX11_part kL_103 nX11_part dL_law_587 (Nat.le_of_ble_eq_true rfl) I1.k734 ?_
    refine n_part (d := 11) I1.2.1.1 I1.2.1.2.1 I1.2.1.2.2.2.2.2.2.1.1 (fun y h2 f2 t2 => by exfalso; omega) (fun y0 y1 h2 f2 t2 => ?_)
    have H2 := md_same I1.2.1 f2 (by decide) (by decide)
    have ev := I1.v f2 (by decide)
    obtain ⟨I2, e2, g2⟩ := I1.m f2 (by decide) H2
    show jWp 14 mL_law 590 [(0, jR 4), (1, jR 10), (2, jR 734), (3, jR 764), (4, jI i), (5, jI 0)] [jI _] h2 Q
    refine wp_istore [1, 2, 3, 4, 5, 6, 0] (ls' := [(0, jR 4), (1, jR 10), (2, jR 734), (3, jR 764), (4, jI i), (5, jI 0), (6, jI _)]) dL_law_590 (by decide) rfl ?_
    refine wp_aload_n 2 dL_law_592 rfl ?_
    refine wp_callV (ci := 8) (y' := mX11_thrown) (st := []) [] rfl rfl rfl fX11_thrown kL_94 nX11_thrown dL_law_593 (Nat.le_of_ble_eq_true rfl) I2.k734 ?_
    refine n_thrown I2.2.1.1 ?_
    rw [t2]
    show jWp 14 mL_law 596 [(0, jR 4), (1, jR 10), (2, jR 734), (3, jR 764), (4, jI i), (5, jI 0), (6, jI _)] [jI 0] h2 Q
    refine wp_iload 5 dL_law_596 rfl ?_
    refine wp_icmp_eq 603 dL_law_598 rfl (fun _ => ?_) (fun q => absurd rfl q)
    refine wp_iload 5 dL_law_603 rfl ?_
    refine wp_if_ne 620 dL_law_605 rfl (fun q => absurd rfl q) (fun _ => ?_)
    refine wp_aload_n 3 dL_law_608 rfl ?_
    refine wp_iconst dL_law_609 ⟨by decide, by decide⟩ ?_
    refine wp_laload dL_law_610 I2.2.2.1 (by decide) (by rw [I2.2.2.2.1]; decide) (fun _ => ?_)
    rw [ev, hA_sA, if_pos ⟨rfl, rfl⟩]
    refine wp_iload 6 dL_law_611 rfl ?_
    refine wp_i2l dL_law_613 ?_
    refine wp_lcmp dL_law_614 ?_
    rw [cmp0]
    refine wp_if_eq 620 dL_law_615 rfl (fun _ => ?_) (fun q => absurd rfl q)
    refine wp_goto 1482 dL_law_620 rfl ?_
    refine wp_sub [0, 1, 2, 3, 4] (ls' := [(0, jR 4), (1, jR 10), (2, jR 734), (3, jR 764), (4, jI i)]) rfl ?_
    exact k h2 _ I2 (J) (by omega) (by omega)
theorem lc_10 (nc : ∀ (G : jG) (s : State), jlo G s s.heap → va_Nc "java/util/NoSuchElementException" "java/lang/IndexOutOfBoundsException" s) (I : lwH b h s s) (J : jInv s) (hi : 0 ≤ i ∧ i + 6 ≤ hN b 4) (k : lwK b h i Q) : jWp 14 mL_law 623 [(0, jR 4), (1, jR 10), (2, jR 734), (3, jR 764), (4, jI i)] [] h Q := by
  have le := I.2.2.2.2.2.2.2.2
  refine wp_aload_n 1 dL_law_623 rfl ?_
  refine wp_aload_n 0 dL_law_624 rfl ?_
  refine wp_iload 4 dL_law_625 rfl ?_
  refine wp_iconst dL_law_627 ⟨by decide, by decide⟩ ?_
  refine wp_iadd dL_law_628 ⟨by omega, by omega⟩ ?_
  refine wp_script dL_law_629 I.k4 (by omega) (by rw [I.n4]; omega) (fun _ => ?_)
  rw [I.sc]
  refine wp_aload_n 0 dL_law_630 rfl ?_
  refine wp_iload 4 dL_law_631 rfl ?_
  refine wp_iconst dL_law_633 ⟨by decide, by decide⟩ ?_
  refine wp_iadd dL_law_634 ⟨by omega, by omega⟩ ?_
  refine wp_script dL_law_635 I.k4 (by omega) (by rw [I.n4]; omega) (fun _ => ?_)
  rw [I.sc]
  refine wp_aload_n 3 dL_law_636 rfl ?_
  refine wp_callS (y' := mL_number) (st := []) [jR 10, jI (hA b 4 (i + 1)), jI (hA b 4 (i + 2)), jR 764] rfl fL_number kL_104 nL_number dL_law_637 (Nat.le_of_ble_eq_true rfl) ?_
  refine l_number (d := 12) nc (P := fun r h' => (∃ v, r = .inl (some (jL v)) ∧ hK h' 764 = 13 ∧ 0 < hN h' 764 ∧ jAft 14 mL_law 637 [(0, jR 4), (1, jR 10), (2, jR 734), (3, jR 764), (4, jI i)] [] Q (.inl (some (jI 0))) (sA h' 764 0 v)) ∨ (r = .inr "java/lang/IndexOutOfBoundsException" ∧ jAft 14 mL_law 637 [(0, jR 4), (1, jR 10), (2, jR 734), (3, jR 764), (4, jI i)] [] Q (.inl (some (jI 1))) h') ∨ (r = .inr "java/util/NoSuchElementException" ∧ jAft 14 mL_law 637 [(0, jR 4), (1, jR 10), (2, jR 734), (3, jR 764), (4, jI i)] [] Q (.inl (some (jI 2))) h')) I.k10 (u_number (d := 5) I.1 (fun z => .inr (.inl ⟨rfl, ?_⟩)) (fun z0 z1 z2 => .inr (.inr ⟨rfl, ?_⟩)) (fun z0 z1 z2 => .inl ⟨_, rfl, I.2.2.1, by rw [I.2.2.2.1]; decide, ?_⟩)) (fun r h' p => p)
  ·
    have I1 := I.x
    have e1 : hS (sN h 16 0 6) = hS h + 1 := rfl
    have g1 : hT (sN h 16 0 6) = hT h + 6 := rfl
    show jWp 14 mL_law 640 [(0, jR 4), (1, jR 10), (2, jR 734), (3, jR 764), (4, jI i)] [jI 1] _ Q
    refine wp_istore [1, 2, 3, 4, 5, 0] (ls' := [(0, jR 4), (1, jR 10), (2, jR 734), (3, jR 764), (4, jI i), (5, jI 1)]) dL_law_640 (by decide) rfl ?_
    refine wp_aload_n 2 dL_law_642 rfl ?_
    refine wp_aload_n 0 dL_law_643 rfl ?_
    refine wp_iload 4 dL_law_644 rfl ?_
    refine wp_iconst dL_law_646 ⟨by decide, by decide⟩ ?_
    refine wp_iadd dL_law_647 ⟨by omega, by omega⟩ ?_
    refine wp_script dL_law_648 I1.k4 (by omega) (by rw [I1.n4]; omega) (fun _ => ?_)
    rw [I1.sc]
    refine wp_aload_n 0 dL_law_649 rfl ?_
    refine wp_iload 4 dL_law_650 rfl ?_
    refine wp_iconst dL_law_652 ⟨by decide, by decide⟩ ?_
    refine wp_iadd dL_law_653 ⟨by omega, by omega⟩ ?_
    refine wp_script dL_law_654 I1.k4 (by omega) (by rw [I1.n4]; omega) (fun _ => ?_)
    rw [I1.sc]
    refine wp_callV (ci := 8) (y' := mX11_number) (st := []) [jI (hA b 4 (i + 1)), jI (hA b 4 (i + 2))] rfl rfl rfl fX11_number kL_106 nX11_number dL_law_655 (Nat.le_of_ble_eq_true rfl) I1.k734 ?_
    refine n_number (d := 11) J.lst.2 I1.2.1.1 I1.2.1.2.1 I1.2.1.2.2.2.2.2.2.1.1 (fun y h2 f2 t2 => ?_) (fun y0 y1 y2 h2 f2 t2 => by exfalso; omega) (fun y0 y1 y2 h2 f2 t2 => by exfalso; omega)
    have H2 := md_same I1.2.1 f2 (by decide) (by decide)
    obtain ⟨I2, e2, g2⟩ := I1.m f2 (by decide) H2
    show jWp 14 mL_law 658 [(0, jR 4), (1, jR 10), (2, jR 734), (3, jR 764), (4, jI i), (5, jI 1)] [jL _] h2 Q
    refine wp_lstore [1, 2, 3, 4, 5, 6, 0] (ls' := [(0, jR 4), (1, jR 10), (2, jR 734), (3, jR 764), (4, jI i), (5, jI 1), (6, jL _)]) dL_law_658 (by decide) rfl ?_
    refine wp_aload_n 2 dL_law_660 rfl ?_
    refine wp_callV (ci := 8) (y' := mX11_thrown) (st := []) [] rfl rfl rfl fX11_thrown kL_94 nX11_thrown dL_law_661 (Nat.le_of_ble_eq_true rfl) I2.k734 ?_
    refine n_thrown I2.2.1.1 ?_
    rw [t2]
    show jWp 14 mL_law 664 [(0, jR 4), (1, jR 10), (2, jR 734), (3, jR 764), (4, jI i), (5, jI 1), (6, jL _)] [jI 1] h2 Q
    refine wp_iload 5 dL_law_664 rfl ?_
    refine wp_icmp_eq 671 dL_law_666 rfl (fun _ => ?_) (fun q => absurd rfl q)
    refine wp_iload 5 dL_law_671 rfl ?_
    refine wp_if_ne 687 dL_law_673 rfl (fun _ => ?_) (fun q => absurd q (by decide))
    refine wp_goto 1482 dL_law_687 rfl ?_
    refine wp_sub [0, 1, 2, 3, 4] (ls' := [(0, jR 4), (1, jR 10), (2, jR 734), (3, jR 764), (4, jI i)]) rfl ?_
    exact k h2 _ I2 (J) (by omega) (by omega)
  ·
    have I1 := I.x
    have e1 : hS (sN h 16 0 6) = hS h + 1 := rfl
    have g1 : hT (sN h 16 0 6) = hT h + 6 := rfl
    show jWp 14 mL_law 640 [(0, jR 4), (1, jR 10), (2, jR 734), (3, jR 764), (4, jI i)] [jI 2] _ Q
    refine wp_istore [1, 2, 3, 4, 5, 0] (ls' := [(0, jR 4), (1, jR 10), (2, jR 734), (3, jR 764), (4, jI i), (5, jI 2)]) dL_law_640 (by decide) rfl ?_
    refine wp_aload_n 2 dL_law_642 rfl ?_
    refine wp_aload_n 0 dL_law_643 rfl ?_
    refine wp_iload 4 dL_law_644 rfl ?_
    refine wp_iconst dL_law_646 ⟨by decide, by decide⟩ ?_
    refine wp_iadd dL_law_647 ⟨by omega, by omega⟩ ?_
    refine wp_script dL_law_648 I1.k4 (by omega) (by rw [I1.n4]; omega) (fun _ => ?_)
    rw [I1.sc]
    refine wp_aload_n 0 dL_law_649 rfl ?_
    refine wp_iload 4 dL_law_650 rfl ?_
    refine wp_iconst dL_law_652 ⟨by decide, by decide⟩ ?_
    refine wp_iadd dL_law_653 ⟨by omega, by omega⟩ ?_
    refine wp_script dL_law_654 I1.k4 (by omega) (by rw [I1.n4]; omega) (fun _ => ?_)
    rw [I1.sc]
    refine wp_callV (ci := 8) (y' := mX11_number) (st := []) [jI (hA b 4 (i + 1)), jI (hA b 4 (i + 2))] rfl rfl rfl fX11_number kL_106 nX11_number dL_law_655 (Nat.le_of_ble_eq_true rfl) I1.k734 ?_
    refine n_number (d := 11) J.lst.2 I1.2.1.1 I1.2.1.2.1 I1.2.1.2.2.2.2.2.2.1.1 (fun y h2 f2 t2 => by exfalso; omega) (fun y0 y1 y2 h2 f2 t2 => ?_) (fun y0 y1 y2 h2 f2 t2 => absurd z2 y2)
    have H2 := md_same I1.2.1 f2 (by decide) (by decide)
    obtain ⟨I2, e2, g2⟩ := I1.m f2 (by decide) H2
    show jWp 14 mL_law 658 [(0, jR 4), (1, jR 10), (2, jR 734), (3, jR 764), (4, jI i), (5, jI 2)] [jL _] h2 Q
    refine wp_lstore [1, 2, 3, 4, 5, 6, 0] (ls' := [(0, jR 4), (1, jR 10), (2, jR 734), (3, jR 764), (4, jI i), (5, jI 2), (6, jL _)]) dL_law_658 (by decide) rfl ?_
    refine wp_aload_n 2 dL_law_660 rfl ?_
    refine wp_callV (ci := 8) (y' := mX11_thrown) (st := []) [] rfl rfl rfl fX11_thrown kL_94 nX11_thrown dL_law_661 (Nat.le_of_ble_eq_true rfl) I2.k734 ?_
    refine n_thrown I2.2.1.1 ?_
    rw [t2]
    show jWp 14 mL_law 664 [(0, jR 4), (1, jR 10), (2, jR 734), (3, jR 764), (4, jI i), (5, jI 2), (6, jL _)] [jI 2] h2 Q
    refine wp_iload 5 dL_law_664 rfl ?_
    refine wp_icmp_eq 671 dL_law_666 rfl (fun _ => ?_) (fun q => absurd rfl q)
    refine wp_iload 5 dL_law_671 rfl ?_
    refine wp_if_ne 687 dL_law_673 rfl (fun _ => ?_) (fun q => absurd q (by decide))
    refine wp_goto 1482 dL_law_687 rfl ?_
    refine wp_sub [0, 1, 2, 3, 4] (ls' := [(0, jR 4), (1, jR 10), (2, jR 734), (3, jR 764), (4, jI i)]) rfl ?_
    exact k h2 _ I2 (J) (by omega) (by omega)
  ·
    have I1 := I.o (nmbV (s.2.1.1.getD (hA b 4 (i + 1)).toNat dE) (hA b 4 (i + 2)))
    have e1 : hS (sA h 764 0 (nmbV (s.2.1.1.getD (hA b 4 (i + 1)).toNat dE) (hA b 4 (i + 2)))) = hS h := rfl
    have g1 : hT (sA h 764 0 (nmbV (s.2.1.1.getD (hA b 4 (i + 1)).toNat dE) (hA b 4 (i + 2)))) = hT h := rfl
    show jWp 14 mL_law 640 [(0, jR 4), (1, jR 10), (2, jR 734), (3, jR 764), (4, jI i)] [jI 0] _ Q
    refine wp_istore [1, 2, 3, 4, 5, 0] (ls' := [(0, jR 4), (1, jR 10), (2, jR 734), (3, jR 764), (4, jI i), (5, jI 0)]) dL_law_640 (by decide) rfl ?_
    refine wp_aload_n 2 dL_law_642 rfl ?_
    refine wp_aload_n 0 dL_law_643 rfl ?_
    refine wp_iload 4 dL_law_644 rfl ?_
    refine wp_iconst dL_law_646 ⟨by decide, by decide⟩ ?_
    refine wp_iadd dL_law_647 ⟨by omega, by omega⟩ ?_
    refine wp_script dL_law_648 I1.k4 (by omega) (by rw [I1.n4]; omega) (fun _ => ?_)
    rw [I1.sc]
    refine wp_aload_n 0 dL_law_649 rfl ?_
    refine wp_iload 4 dL_law_650 rfl ?_
    refine wp_iconst dL_law_652 ⟨by decide, by decide⟩ ?_
    refine wp_iadd dL_law_653 ⟨by omega, by omega⟩ ?_
    refine wp_script dL_law_654 I1.k4 (by omega) (by rw [I1.n4]; omega) (fun _ => ?_)
    rw [I1.sc]
    refine wp_callV (ci := 8) (y' := mX11_number) (st := []) [jI (hA b 4 (i + 1)), jI (hA b 4 (i + 2))] rfl rfl rfl fX11_number kL_106 nX11_number dL_law_655 (Nat.le_of_ble_eq_true rfl) I1.k734 ?_
    refine n_number (d := 11) J.lst.2 I1.2.1.1 I1.2.1.2.1 I1.2.1.2.2.2.2.2.2.1.1 (fun y h2 f2 t2 => by exfalso; omega) (fun y0 y1 y2 h2 f2 t2 => absurd y2 z2) (fun y0 y1 y2 h2 f2 t2 => ?_)
    have H2 := md_same I1.2.1 f2 (by decide) (by decide)
    have ev := I1.v f2 (by decide)
    obtain ⟨I2, e2, g2⟩ := I1.m f2 (by decide) H2
    show jWp 14 mL_law 658 [(0, jR 4), (1, jR 10), (2, jR 734), (3, jR 764), (4, jI i), (5, jI 0)] [jL _] h2 Q
    refine wp_lstore [1, 2, 3, 4, 5, 6, 0] (ls' := [(0, jR 4), (1, jR 10), (2, jR 734), (3, jR 764), (4, jI i), (5, jI 0), (6, jL _)]) dL_law_658 (by decide) rfl ?_
    refine wp_aload_n 2 dL_law_660 rfl ?_
    refine wp_callV (ci := 8) (y' := mX11_thrown) (st := []) [] rfl rfl rfl fX11_thrown kL_94 nX11_thrown dL_law_661 (Nat.le_of_ble_eq_true rfl) I2.k734 ?_
    refine n_thrown I2.2.1.1 ?_
    rw [t2]
    show jWp 14 mL_law 664 [(0, jR 4), (1, jR 10), (2, jR 734), (3, jR 764), (4, jI i), (5, jI 0), (6, jL _)] [jI 0] h2 Q
    refine wp_iload 5 dL_law_664 rfl ?_
    refine wp_icmp_eq 671 dL_law_666 rfl (fun _ => ?_) (fun q => absurd rfl q)
    refine wp_iload 5 dL_law_671 rfl ?_
    refine wp_if_ne 687 dL_law_673 rfl (fun q => absurd rfl q) (fun _ => ?_)
    refine wp_aload_n 3 dL_law_676 rfl ?_
    refine wp_iconst dL_law_677 ⟨by decide, by decide⟩ ?_
    refine wp_laload dL_law_678 I2.2.2.1 (by decide) (by rw [I2.2.2.2.1]; decide) (fun _ => ?_)
    rw [ev, hA_sA, if_pos ⟨rfl, rfl⟩]
    refine wp_lload 6 dL_law_679 rfl ?_
    refine wp_lcmp dL_law_681 ?_
    rw [cmp0]
    refine wp_if_eq 687 dL_law_682 rfl (fun _ => ?_) (fun q => absurd rfl q)
    refine wp_goto 1482 dL_law_687 rfl ?_
    refine wp_sub [0, 1, 2, 3, 4] (ls' := [(0, jR 4), (1, jR 10), (2, jR 734), (3, jR 764), (4, jI i)]) rfl ?_
    exact k h2 _ I2 (J) (by omega) (by omega)
theorem lc_11 (nc : ∀ (G : jG) (s : State), jlo G s s.heap → va_Nc "java/util/NoSuchElementException" "java/lang/IndexOutOfBoundsException" s) (I : lwH b h s s) (J : jInv s) (hi : 0 ≤ i ∧ i + 6 ≤ hN b 4) (k : lwK b h i Q) : jWp 14 mL_law 690 [(0, jR 4), (1, jR 10), (2, jR 734), (3, jR 764), (4, jI i)] [] h Q := by
  have le := I.2.2.2.2.2.2.2.2
  have hc : ∀ y ∈ s.2.1.1, 1950 ≤ y.2.2.2 ∧ y.2.2.2 ≤ 2200 := fun y hy => ⟨(J.lst.2 y hy).2.2.2.2.1, (J.lst.2 y hy).2.2.2.2.2⟩
  refine wp_aload_n 1 dL_law_690 rfl ?_
  refine wp_aload_n 0 dL_law_691 rfl ?_
  refine wp_iload 4 dL_law_692 rfl ?_
  refine wp_iconst dL_law_694 ⟨by decide, by decide⟩ ?_
  refine wp_iadd dL_law_695 ⟨by omega, by omega⟩ ?_
  refine wp_script dL_law_696 I.k4 (by omega) (by rw [I.n4]; omega) (fun _ => ?_)
  rw [I.sc]
  refine wp_aload_n 0 dL_law_697 rfl ?_
  refine wp_iload 4 dL_law_698 rfl ?_
  refine wp_iconst dL_law_700 ⟨by decide, by decide⟩ ?_
  refine wp_iadd dL_law_701 ⟨by omega, by omega⟩ ?_
  refine wp_script dL_law_702 I.k4 (by omega) (by rw [I.n4]; omega) (fun _ => ?_)
  rw [I.sc]
  refine wp_aload_n 0 dL_law_703 rfl ?_
  refine wp_iload 4 dL_law_704 rfl ?_
  refine wp_iconst dL_law_706 ⟨by decide, by decide⟩ ?_
  refine wp_iadd dL_law_707 ⟨by omega, by omega⟩ ?_
  refine wp_script dL_law_708 I.k4 (by omega) (by rw [I.n4]; omega) (fun _ => ?_)
  rw [I.sc]
  refine wp_aload_n 3 dL_law_709 rfl ?_
  refine wp_callS (y' := mL_date) (st := []) [jR 10, jI (hA b 4 (i + 1)), jI (hA b 4 (i + 2)), jI (hA b 4 (i + 3)), jR 764] rfl fL_date kL_107 nL_date dL_law_710 (Nat.le_of_ble_eq_true rfl) ?_
  refine l_date (d := 12) nc (P := fun r h' => (∃ v, r = .inl (some (jI v)) ∧ hK h' 764 = 13 ∧ 0 < hN h' 764 ∧ jAft 14 mL_law 710 [(0, jR 4), (1, jR 10), (2, jR 734), (3, jR 764), (4, jI i)] [] Q (.inl (some (jI 0))) (sA h' 764 0 v)) ∨ (r = .inr "java/lang/IndexOutOfBoundsException" ∧ jAft 14 mL_law 710 [(0, jR 4), (1, jR 10), (2, jR 734), (3, jR 764), (4, jI i)] [] Q (.inl (some (jI 1))) h') ∨ (r = .inr "java/util/NoSuchElementException" ∧ jAft 14 mL_law 710 [(0, jR 4), (1, jR 10), (2, jR 734), (3, jR 764), (4, jI i)] [] Q (.inl (some (jI 2))) h')) I.k10 (u_date (d := 5) I.1 (fun z0 z1 => by have := hc _ (by rw [List.getD_eq_getElem?_getD, List.getElem?_eq_getElem (by omega)]; exact List.getElem_mem _ : (s.2.1.1.getD (hA b 4 (i + 1)).toNat dE) ∈ s.2.1.1); omega) (fun z => .inr (.inl ⟨rfl, ?_⟩)) (fun z0 z1 z2 => .inr (.inr ⟨rfl, ?_⟩)) (fun z0 z1 z2 z3 => .inl ⟨_, rfl, I.2.2.1, by rw [I.2.2.2.1]; decide, ?_⟩)) (fun r h' p => p)
  ·
    have I1 := I.x
    have e1 : hS (sN h 16 0 6) = hS h + 1 := rfl
    have g1 : hT (sN h 16 0 6) = hT h + 6 := rfl
    show jWp 14 mL_law 713 [(0, jR 4), (1, jR 10), (2, jR 734), (3, jR 764), (4, jI i)] [jI 1] _ Q
    refine wp_istore [1, 2, 3, 4, 5, 0] (ls' := [(0, jR 4), (1, jR 10), (2, jR 734), (3, jR 764), (4, jI i), (5, jI 1)]) dL_law_713 (by decide) rfl ?_
    refine wp_aload_n 2 dL_law_715 rfl ?_
    refine wp_aload_n 0 dL_law_716 rfl ?_
    refine wp_iload 4 dL_law_717 rfl ?_
    refine wp_iconst dL_law_719 ⟨by decide, by decide⟩ ?_
    refine wp_iadd dL_law_720 ⟨by omega, by omega⟩ ?_
    refine wp_script dL_law_721 I1.k4 (by omega) (by rw [I1.n4]; omega) (fun _ => ?_)
    rw [I1.sc]
    refine wp_aload_n 0 dL_law_722 rfl ?_
    refine wp_iload 4 dL_law_723 rfl ?_
    refine wp_iconst dL_law_725 ⟨by decide, by decide⟩ ?_
    refine wp_iadd dL_law_726 ⟨by omega, by omega⟩ ?_
    refine wp_script dL_law_727 I1.k4 (by omega) (by rw [I1.n4]; omega) (fun _ => ?_)
    rw [I1.sc]
    refine wp_aload_n 0 dL_law_728 rfl ?_
    refine wp_iload 4 dL_law_729 rfl ?_
    refine wp_iconst dL_law_731 ⟨by decide, by decide⟩ ?_
    refine wp_iadd dL_law_732 ⟨by omega, by omega⟩ ?_
    refine wp_script dL_law_733 I1.k4 (by omega) (by rw [I1.n4]; omega) (fun _ => ?_)
    rw [I1.sc]
    refine wp_callV (ci := 8) (y' := mX11_date) (st := []) [jI (hA b 4 (i + 1)), jI (hA b 4 (i + 2)), jI (hA b 4 (i + 3))] rfl rfl rfl fX11_date kL_109 nX11_date dL_law_734 (Nat.le_of_ble_eq_true rfl) I1.k734 ?_
    refine n_date (d := 11) J.lst.2 I1.2.1.1 I1.2.1.2.1 I1.2.1.2.2.2.2.2.2.1.1 (fun y h2 f2 t2 => ?_) (fun y0 y1 y2 h2 f2 t2 => by exfalso; omega) (fun y0 y1 y2 y3 h2 f2 t2 => by exfalso; omega)
    have H2 := md_same I1.2.1 f2 (by decide) (by decide)
    obtain ⟨I2, e2, g2⟩ := I1.m f2 (by decide) H2
    show jWp 14 mL_law 737 [(0, jR 4), (1, jR 10), (2, jR 734), (3, jR 764), (4, jI i), (5, jI 1)] [jI _] h2 Q
    refine wp_istore [1, 2, 3, 4, 5, 6, 0] (ls' := [(0, jR 4), (1, jR 10), (2, jR 734), (3, jR 764), (4, jI i), (5, jI 1), (6, jI _)]) dL_law_737 (by decide) rfl ?_
    refine wp_aload_n 2 dL_law_739 rfl ?_
    refine wp_callV (ci := 8) (y' := mX11_thrown) (st := []) [] rfl rfl rfl fX11_thrown kL_94 nX11_thrown dL_law_740 (Nat.le_of_ble_eq_true rfl) I2.k734 ?_
    refine n_thrown I2.2.1.1 ?_
    rw [t2]
    show jWp 14 mL_law 743 [(0, jR 4), (1, jR 10), (2, jR 734), (3, jR 764), (4, jI i), (5, jI 1), (6, jI _)] [jI 1] h2 Q
    refine wp_iload 5 dL_law_743 rfl ?_
    refine wp_icmp_eq 750 dL_law_745 rfl (fun _ => ?_) (fun q => absurd rfl q)
    refine wp_iload 5 dL_law_750 rfl ?_
    refine wp_if_ne 767 dL_law_752 rfl (fun _ => ?_) (fun q => absurd q (by decide))
    refine wp_goto 1482 dL_law_767 rfl ?_
    refine wp_sub [0, 1, 2, 3, 4] (ls' := [(0, jR 4), (1, jR 10), (2, jR 734), (3, jR 764), (4, jI i)]) rfl ?_
    exact k h2 _ I2 (J) (by omega) (by omega)
  ·
    have I1 := I.x
    have e1 : hS (sN h 16 0 6) = hS h + 1 := rfl
    have g1 : hT (sN h 16 0 6) = hT h + 6 := rfl
    show jWp 14 mL_law 713 [(0, jR 4), (1, jR 10), (2, jR 734), (3, jR 764), (4, jI i)] [jI 2] _ Q
    refine wp_istore [1, 2, 3, 4, 5, 0] (ls' := [(0, jR 4), (1, jR 10), (2, jR 734), (3, jR 764), (4, jI i), (5, jI 2)]) dL_law_713 (by decide) rfl ?_
    refine wp_aload_n 2 dL_law_715 rfl ?_
    refine wp_aload_n 0 dL_law_716 rfl ?_
    refine wp_iload 4 dL_law_717 rfl ?_
    refine wp_iconst dL_law_719 ⟨by decide, by decide⟩ ?_
    refine wp_iadd dL_law_720 ⟨by omega, by omega⟩ ?_
    refine wp_script dL_law_721 I1.k4 (by omega) (by rw [I1.n4]; omega) (fun _ => ?_)
    rw [I1.sc]
    refine wp_aload_n 0 dL_law_722 rfl ?_
    refine wp_iload 4 dL_law_723 rfl ?_
    refine wp_iconst dL_law_725 ⟨by decide, by decide⟩ ?_
    refine wp_iadd dL_law_726 ⟨by omega, by omega⟩ ?_
    refine wp_script dL_law_727 I1.k4 (by omega) (by rw [I1.n4]; omega) (fun _ => ?_)
    rw [I1.sc]
    refine wp_aload_n 0 dL_law_728 rfl ?_
    refine wp_iload 4 dL_law_729 rfl ?_
    refine wp_iconst dL_law_731 ⟨by decide, by decide⟩ ?_
    refine wp_iadd dL_law_732 ⟨by omega, by omega⟩ ?_
    refine wp_script dL_law_733 I1.k4 (by omega) (by rw [I1.n4]; omega) (fun _ => ?_)
    rw [I1.sc]
    refine wp_callV (ci := 8) (y' := mX11_date) (st := []) [jI (hA b 4 (i + 1)), jI (hA b 4 (i + 2)), jI (hA b 4 (i + 3))] rfl rfl rfl fX11_date kL_109 nX11_date dL_law_734 (Nat.le_of_ble_eq_true rfl) I1.k734 ?_
    refine n_date (d := 11) J.lst.2 I1.2.1.1 I1.2.1.2.1 I1.2.1.2.2.2.2.2.2.1.1 (fun y h2 f2 t2 => by exfalso; omega) (fun y0 y1 y2 h2 f2 t2 => ?_) (fun y0 y1 y2 y3 h2 f2 t2 => z2.elim (fun q => absurd q y2) (fun q => absurd y3 q))
    have H2 := md_same I1.2.1 f2 (by decide) (by decide)
    obtain ⟨I2, e2, g2⟩ := I1.m f2 (by decide) H2
    show jWp 14 mL_law 737 [(0, jR 4), (1, jR 10), (2, jR 734), (3, jR 764), (4, jI i), (5, jI 2)] [jI _] h2 Q
    refine wp_istore [1, 2, 3, 4, 5, 6, 0] (ls' := [(0, jR 4), (1, jR 10), (2, jR 734), (3, jR 764), (4, jI i), (5, jI 2), (6, jI _)]) dL_law_737 (by decide) rfl ?_
    refine wp_aload_n 2 dL_law_739 rfl ?_
    refine wp_callV (ci := 8) (y' := mX11_thrown) (st := []) [] rfl rfl rfl fX11_thrown kL_94 nX11_thrown dL_law_740 (Nat.le_of_ble_eq_true rfl) I2.k734 ?_
    refine n_thrown I2.2.1.1 ?_
    rw [t2]
    show jWp 14 mL_law 743 [(0, jR 4), (1, jR 10), (2, jR 734), (3, jR 764), (4, jI i), (5, jI 2), (6, jI _)] [jI 2] h2 Q
    refine wp_iload 5 dL_law_743 rfl ?_
    refine wp_icmp_eq 750 dL_law_745 rfl (fun _ => ?_) (fun q => absurd rfl q)
    refine wp_iload 5 dL_law_750 rfl ?_
    refine wp_if_ne 767 dL_law_752 rfl (fun _ => ?_) (fun q => absurd q (by decide))
    refine wp_goto 1482 dL_law_767 rfl ?_
    refine wp_sub [0, 1, 2, 3, 4] (ls' := [(0, jR 4), (1, jR 10), (2, jR 734), (3, jR 764), (4, jI i)]) rfl ?_
    exact k h2 _ I2 (J) (by omega) (by omega)
  ·
    have I1 := I.o (datV (s.2.1.1.getD (hA b 4 (i + 1)).toNat dE) (hA b 4 (i + 2)) (hA b 4 (i + 3)))
    have e1 : hS (sA h 764 0 (datV (s.2.1.1.getD (hA b 4 (i + 1)).toNat dE) (hA b 4 (i + 2)) (hA b 4 (i + 3)))) = hS h := rfl
    have g1 : hT (sA h 764 0 (datV (s.2.1.1.getD (hA b 4 (i + 1)).toNat dE) (hA b 4 (i + 2)) (hA b 4 (i + 3)))) = hT h := rfl
    show jWp 14 mL_law 713 [(0, jR 4), (1, jR 10), (2, jR 734), (3, jR 764), (4, jI i)] [jI 0] _ Q
    refine wp_istore [1, 2, 3, 4, 5, 0] (ls' := [(0, jR 4), (1, jR 10), (2, jR 734), (3, jR 764), (4, jI i), (5, jI 0)]) dL_law_713 (by decide) rfl ?_
    refine wp_aload_n 2 dL_law_715 rfl ?_
    refine wp_aload_n 0 dL_law_716 rfl ?_
    refine wp_iload 4 dL_law_717 rfl ?_
    refine wp_iconst dL_law_719 ⟨by decide, by decide⟩ ?_
    refine wp_iadd dL_law_720 ⟨by omega, by omega⟩ ?_
    refine wp_script dL_law_721 I1.k4 (by omega) (by rw [I1.n4]; omega) (fun _ => ?_)
    rw [I1.sc]
    refine wp_aload_n 0 dL_law_722 rfl ?_
    refine wp_iload 4 dL_law_723 rfl ?_
    refine wp_iconst dL_law_725 ⟨by decide, by decide⟩ ?_
    refine wp_iadd dL_law_726 ⟨by omega, by omega⟩ ?_
    refine wp_script dL_law_727 I1.k4 (by omega) (by rw [I1.n4]; omega) (fun _ => ?_)
    rw [I1.sc]
    refine wp_aload_n 0 dL_law_728 rfl ?_
    refine wp_iload 4 dL_law_729 rfl ?_
    refine wp_iconst dL_law_731 ⟨by decide, by decide⟩ ?_
    refine wp_iadd dL_law_732 ⟨by omega, by omega⟩ ?_
    refine wp_script dL_law_733 I1.k4 (by omega) (by rw [I1.n4]; omega) (fun _ => ?_)
    rw [I1.sc]
    refine wp_callV (ci := 8) (y' := mX11_date) (st := []) [jI (hA b 4 (i + 1)), jI (hA b 4 (i + 2)), jI (hA b 4 (i + 3))] rfl rfl rfl fX11_date kL_109 nX11_date dL_law_734 (Nat.le_of_ble_eq_true rfl) I1.k734 ?_
    refine n_date (d := 11) J.lst.2 I1.2.1.1 I1.2.1.2.1 I1.2.1.2.2.2.2.2.2.1.1 (fun y h2 f2 t2 => by exfalso; omega) (fun y0 y1 y2 h2 f2 t2 => y2.elim (fun q => absurd q z2) (fun q => absurd z3 q)) (fun y0 y1 y2 y3 h2 f2 t2 => ?_)
    have H2 := md_same I1.2.1 f2 (by decide) (by decide)
    have ev := I1.v f2 (by decide)
    obtain ⟨I2, e2, g2⟩ := I1.m f2 (by decide) H2
    show jWp 14 mL_law 737 [(0, jR 4), (1, jR 10), (2, jR 734), (3, jR 764), (4, jI i), (5, jI 0)] [jI _] h2 Q
    refine wp_istore [1, 2, 3, 4, 5, 6, 0] (ls' := [(0, jR 4), (1, jR 10), (2, jR 734), (3, jR 764), (4, jI i), (5, jI 0), (6, jI _)]) dL_law_737 (by decide) rfl ?_
    refine wp_aload_n 2 dL_law_739 rfl ?_
    refine wp_callV (ci := 8) (y' := mX11_thrown) (st := []) [] rfl rfl rfl fX11_thrown kL_94 nX11_thrown dL_law_740 (Nat.le_of_ble_eq_true rfl) I2.k734 ?_
    refine n_thrown I2.2.1.1 ?_
    rw [t2]
    show jWp 14 mL_law 743 [(0, jR 4), (1, jR 10), (2, jR 734), (3, jR 764), (4, jI i), (5, jI 0), (6, jI _)] [jI 0] h2 Q
    refine wp_iload 5 dL_law_743 rfl ?_
    refine wp_icmp_eq 750 dL_law_745 rfl (fun _ => ?_) (fun q => absurd rfl q)
    refine wp_iload 5 dL_law_750 rfl ?_
    refine wp_if_ne 767 dL_law_752 rfl (fun q => absurd rfl q) (fun _ => ?_)
    refine wp_aload_n 3 dL_law_755 rfl ?_
    refine wp_iconst dL_law_756 ⟨by decide, by decide⟩ ?_
    refine wp_laload dL_law_757 I2.2.2.1 (by decide) (by rw [I2.2.2.2.1]; decide) (fun _ => ?_)
    rw [ev, hA_sA, if_pos ⟨rfl, rfl⟩]
    refine wp_iload 6 dL_law_758 rfl ?_
    refine wp_i2l dL_law_760 ?_
    refine wp_lcmp dL_law_761 ?_
    rw [cmp0]
    refine wp_if_eq 767 dL_law_762 rfl (fun _ => ?_) (fun q => absurd rfl q)
    refine wp_goto 1482 dL_law_767 rfl ?_
    refine wp_sub [0, 1, 2, 3, 4] (ls' := [(0, jR 4), (1, jR 10), (2, jR 734), (3, jR 764), (4, jI i)]) rfl ?_
    exact k h2 _ I2 (J) (by omega) (by omega)
theorem lc_16 (I : lwH b h s s) (J : jInv s) (hi : 0 ≤ i ∧ i + 6 ≤ hN b 4) (k : lwK b h i Q) : jWp 14 mL_law 886 [(0, jR 4), (1, jR 10), (2, jR 734), (3, jR 764), (4, jI i)] [] h Q := by
  have le := I.2.2.2.2.2.2.2.2
  refine wp_aload_n 1 dL_law_886 rfl ?_
  refine wp_aload_n 0 dL_law_887 rfl ?_
  refine wp_iload 4 dL_law_888 rfl ?_
  refine wp_iconst dL_law_890 ⟨by decide, by decide⟩ ?_
  refine wp_iadd dL_law_891 ⟨by omega, by omega⟩ ?_
  refine wp_script dL_law_892 I.k4 (by omega) (by rw [I.n4]; omega) (fun _ => ?_)
  rw [I.sc]
  refine wp_aload_n 3 dL_law_893 rfl ?_
  refine wp_callS (y' := mL_shelve) (st := []) [jR 10, jI (hA b 4 (i + 1)), jR 764] rfl fL_shelve kL_126 nL_shelve dL_law_894 (Nat.le_of_ble_eq_true rfl) ?_
  refine l_shelve (d := 12) (P := fun r h' => (∃ v, r = .inl (some (jI v)) ∧ hK h' 764 = 13 ∧ 0 < hN h' 764 ∧ jAft 14 mL_law 894 [(0, jR 4), (1, jR 10), (2, jR 734), (3, jR 764), (4, jI i)] [] Q (.inl (some (jI 0))) (sA h' 764 0 v)) ∨ (r = .inr "java/lang/IndexOutOfBoundsException" ∧ jAft 14 mL_law 894 [(0, jR 4), (1, jR 10), (2, jR 734), (3, jR 764), (4, jI i)] [] Q (.inl (some (jI 1))) h')) I.k10 (u_shelve (d := 5) I.1 (fun z => .inr ⟨rfl, ?_⟩) (fun z0 z1 h1 f1 H1 => .inl ⟨_, rfl, (I.p f1.fr ⟨by omega, by omega⟩ H1).1.2.2.1, by rw [(I.p f1.fr ⟨by omega, by omega⟩ H1).1.2.2.2.1]; decide, ?_⟩)) (fun r h' p => p)
  ·
    have I1 := I.x
    have e1 : hS (sN h 16 0 6) = hS h + 1 := rfl
    have g1 : hT (sN h 16 0 6) = hT h + 6 := rfl
    show jWp 14 mL_law 897 [(0, jR 4), (1, jR 10), (2, jR 734), (3, jR 764), (4, jI i)] [jI 1] _ Q
    refine wp_istore [1, 2, 3, 4, 5, 0] (ls' := [(0, jR 4), (1, jR 10), (2, jR 734), (3, jR 764), (4, jI i), (5, jI 1)]) dL_law_897 (by decide) rfl ?_
    refine wp_aload_n 2 dL_law_899 rfl ?_
    refine wp_aload_n 0 dL_law_900 rfl ?_
    refine wp_iload 4 dL_law_901 rfl ?_
    refine wp_iconst dL_law_903 ⟨by decide, by decide⟩ ?_
    refine wp_iadd dL_law_904 ⟨by omega, by omega⟩ ?_
    refine wp_script dL_law_905 I1.k4 (by omega) (by rw [I1.n4]; omega) (fun _ => ?_)
    rw [I1.sc]
    refine wp_callV (ci := 8) (y' := mX11_shelve) (st := []) [jI (hA b 4 (i + 1))] rfl rfl rfl fX11_shelve kL_129 nX11_shelve dL_law_906 (Nat.le_of_ble_eq_true rfl) I1.k734 ?_
    refine v_shelve (d := 11) I1.2.1 (fun y h2 f2 H2 t2 => ?_) (fun y0 y1 h2 f2 H2 t2 => by exfalso; omega)
    obtain ⟨I2, e2, g2⟩ := I1.m f2 (by decide) H2
    show jWp 14 mL_law 909 [(0, jR 4), (1, jR 10), (2, jR 734), (3, jR 764), (4, jI i), (5, jI 1)] [jI _] h2 Q
    refine wp_istore [1, 2, 3, 4, 5, 6, 0] (ls' := [(0, jR 4), (1, jR 10), (2, jR 734), (3, jR 764), (4, jI i), (5, jI 1), (6, jI _)]) dL_law_909 (by decide) rfl ?_
    refine wp_aload_n 2 dL_law_911 rfl ?_
    refine wp_callV (ci := 8) (y' := mX11_thrown) (st := []) [] rfl rfl rfl fX11_thrown kL_94 nX11_thrown dL_law_912 (Nat.le_of_ble_eq_true rfl) I2.k734 ?_
    refine n_thrown I2.2.1.1 ?_
    rw [t2]
    show jWp 14 mL_law 915 [(0, jR 4), (1, jR 10), (2, jR 734), (3, jR 764), (4, jI i), (5, jI 1), (6, jI _)] [jI 1] h2 Q
    refine wp_iload 5 dL_law_915 rfl ?_
    refine wp_icmp_eq 922 dL_law_917 rfl (fun _ => ?_) (fun q => absurd rfl q)
    refine wp_iload 5 dL_law_922 rfl ?_
    refine wp_if_ne 939 dL_law_924 rfl (fun _ => ?_) (fun q => absurd q (by decide))
    refine wp_goto 1482 dL_law_939 rfl ?_
    refine wp_sub [0, 1, 2, 3, 4] (ls' := [(0, jR 4), (1, jR 10), (2, jR 734), (3, jR 764), (4, jI i)]) rfl ?_
    exact k h2 _ I2 (J) (by omega) (by omega)
  ·
    obtain ⟨I0, e1, g1⟩ := I.p f1.fr ⟨by omega, by omega⟩ H1
    have I1 := I0.o s.2.1.1.length
    show jWp 14 mL_law 897 [(0, jR 4), (1, jR 10), (2, jR 734), (3, jR 764), (4, jI i)] [jI 0] _ Q
    refine wp_istore [1, 2, 3, 4, 5, 0] (ls' := [(0, jR 4), (1, jR 10), (2, jR 734), (3, jR 764), (4, jI i), (5, jI 0)]) dL_law_897 (by decide) rfl ?_
    refine wp_aload_n 2 dL_law_899 rfl ?_
    refine wp_aload_n 0 dL_law_900 rfl ?_
    refine wp_iload 4 dL_law_901 rfl ?_
    refine wp_iconst dL_law_903 ⟨by decide, by decide⟩ ?_
    refine wp_iadd dL_law_904 ⟨by omega, by omega⟩ ?_
    refine wp_script dL_law_905 I1.k4 (by omega) (by rw [I1.n4]; omega) (fun _ => ?_)
    rw [I1.sc]
    refine wp_callV (ci := 8) (y' := mX11_shelve) (st := []) [jI (hA b 4 (i + 1))] rfl rfl rfl fX11_shelve kL_129 nX11_shelve dL_law_906 (Nat.le_of_ble_eq_true rfl) I1.k734 ?_
    refine v_shelve (d := 11) I1.2.1 (fun y h2 f2 H2 t2 => by exfalso; omega) (fun y0 y1 h2 f2 H2 t2 => ?_)
    have ev := I1.v f2 (by decide)
    obtain ⟨I2, e2, g2⟩ := I1.m f2 (by decide) H2
    simp only [hS_sA, hT_sA] at e2 g2
    show jWp 14 mL_law 909 [(0, jR 4), (1, jR 10), (2, jR 734), (3, jR 764), (4, jI i), (5, jI 0)] [jI _] h2 Q
    refine wp_istore [1, 2, 3, 4, 5, 6, 0] (ls' := [(0, jR 4), (1, jR 10), (2, jR 734), (3, jR 764), (4, jI i), (5, jI 0), (6, jI _)]) dL_law_909 (by decide) rfl ?_
    refine wp_aload_n 2 dL_law_911 rfl ?_
    refine wp_callV (ci := 8) (y' := mX11_thrown) (st := []) [] rfl rfl rfl fX11_thrown kL_94 nX11_thrown dL_law_912 (Nat.le_of_ble_eq_true rfl) I2.k734 ?_
    refine n_thrown I2.2.1.1 ?_
    rw [t2]
    show jWp 14 mL_law 915 [(0, jR 4), (1, jR 10), (2, jR 734), (3, jR 764), (4, jI i), (5, jI 0), (6, jI _)] [jI 0] h2 Q
    refine wp_iload 5 dL_law_915 rfl ?_
    refine wp_icmp_eq 922 dL_law_917 rfl (fun _ => ?_) (fun q => absurd rfl q)
    refine wp_iload 5 dL_law_922 rfl ?_
    refine wp_if_ne 939 dL_law_924 rfl (fun q => absurd rfl q) (fun _ => ?_)
    refine wp_aload_n 3 dL_law_927 rfl ?_
    refine wp_iconst dL_law_928 ⟨by decide, by decide⟩ ?_
    refine wp_laload dL_law_929 I2.2.2.1 (by decide) (by rw [I2.2.2.2.1]; decide) (fun _ => ?_)
    rw [ev, hA_sA, if_pos ⟨rfl, rfl⟩]
    refine wp_iload 6 dL_law_930 rfl ?_
    refine wp_i2l dL_law_932 ?_
    refine wp_lcmp dL_law_933 ?_
    rw [cmp0]
    refine wp_if_eq 939 dL_law_934 rfl (fun _ => ?_) (fun q => absurd rfl q)
    refine wp_goto 1482 dL_law_939 rfl ?_
    refine wp_sub [0, 1, 2, 3, 4] (ls' := [(0, jR 4), (1, jR 10), (2, jR 734), (3, jR 764), (4, jI i)]) rfl ?_
    exact k h2 _ I2 (I_shelve J _) (by omega) (by omega)
theorem lc_17 (I : lwH b h s s) (J : jInv s) (hi : 0 ≤ i ∧ i + 6 ≤ hN b 4) (k : lwK b h i Q) : jWp 14 mL_law 942 [(0, jR 4), (1, jR 10), (2, jR 734), (3, jR 764), (4, jI i)] [] h Q := by
  have le := I.2.2.2.2.2.2.2.2
  refine wp_aload_n 1 dL_law_942 rfl ?_
  refine wp_aload_n 0 dL_law_943 rfl ?_
  refine wp_iload 4 dL_law_944 rfl ?_
  refine wp_iconst dL_law_946 ⟨by decide, by decide⟩ ?_
  refine wp_iadd dL_law_947 ⟨by omega, by omega⟩ ?_
  refine wp_script dL_law_948 I.k4 (by omega) (by rw [I.n4]; omega) (fun _ => ?_)
  rw [I.sc]
  refine wp_aload_n 3 dL_law_949 rfl ?_
  refine wp_callS (y' := mL_fetch) (st := []) [jR 10, jI (hA b 4 (i + 1)), jR 764] rfl fL_fetch kL_130 nL_fetch dL_law_950 (Nat.le_of_ble_eq_true rfl) ?_
  refine l_fetch (d := 12) (P := fun r h' => (∃ v, r = .inl (some (jI v)) ∧ hK h' 764 = 13 ∧ 0 < hN h' 764 ∧ jAft 14 mL_law 950 [(0, jR 4), (1, jR 10), (2, jR 734), (3, jR 764), (4, jI i)] [] Q (.inl (some (jI 0))) (sA h' 764 0 v)) ∨ (r = .inr "java/lang/IndexOutOfBoundsException" ∧ jAft 14 mL_law 950 [(0, jR 4), (1, jR 10), (2, jR 734), (3, jR 764), (4, jI i)] [] Q (.inl (some (jI 1))) h')) I.k10 (u_fetch (d := 5) I.1 (fun z => .inr ⟨rfl, ?_⟩) (fun z0 z1 h1 f1 H1 => .inl ⟨_, rfl, (I.p f1 ⟨by omega, by omega⟩ H1).1.2.2.1, by rw [(I.p f1 ⟨by omega, by omega⟩ H1).1.2.2.2.1]; decide, ?_⟩)) (fun r h' p => p)
  ·
    have I1 := I.x
    have e1 : hS (sN h 16 0 6) = hS h + 1 := rfl
    have g1 : hT (sN h 16 0 6) = hT h + 6 := rfl
    show jWp 14 mL_law 953 [(0, jR 4), (1, jR 10), (2, jR 734), (3, jR 764), (4, jI i)] [jI 1] _ Q
    refine wp_istore [1, 2, 3, 4, 5, 0] (ls' := [(0, jR 4), (1, jR 10), (2, jR 734), (3, jR 764), (4, jI i), (5, jI 1)]) dL_law_953 (by decide) rfl ?_
    refine wp_aload_n 2 dL_law_955 rfl ?_
    refine wp_aload_n 0 dL_law_956 rfl ?_
    refine wp_iload 4 dL_law_957 rfl ?_
    refine wp_iconst dL_law_959 ⟨by decide, by decide⟩ ?_
    refine wp_iadd dL_law_960 ⟨by omega, by omega⟩ ?_
    refine wp_script dL_law_961 I1.k4 (by omega) (by rw [I1.n4]; omega) (fun _ => ?_)
    rw [I1.sc]
    refine wp_callV (ci := 8) (y' := mX11_fetch) (st := []) [jI (hA b 4 (i + 1))] rfl rfl rfl fX11_fetch kL_132 nX11_fetch dL_law_962 (Nat.le_of_ble_eq_true rfl) I1.k734 ?_
    refine v_fetch (d := 11) I1.2.1 (fun y h2 f2 H2 t2 => ?_) (fun y0 y1 h2 f2 H2 t2 => by exfalso; omega)
    obtain ⟨I2, e2, g2⟩ := I1.m f2 (by decide) H2
    show jWp 14 mL_law 965 [(0, jR 4), (1, jR 10), (2, jR 734), (3, jR 764), (4, jI i), (5, jI 1)] [jI _] h2 Q
    refine wp_istore [1, 2, 3, 4, 5, 6, 0] (ls' := [(0, jR 4), (1, jR 10), (2, jR 734), (3, jR 764), (4, jI i), (5, jI 1), (6, jI _)]) dL_law_965 (by decide) rfl ?_
    refine wp_aload_n 2 dL_law_967 rfl ?_
    refine wp_callV (ci := 8) (y' := mX11_thrown) (st := []) [] rfl rfl rfl fX11_thrown kL_94 nX11_thrown dL_law_968 (Nat.le_of_ble_eq_true rfl) I2.k734 ?_
    refine n_thrown I2.2.1.1 ?_
    rw [t2]
    show jWp 14 mL_law 971 [(0, jR 4), (1, jR 10), (2, jR 734), (3, jR 764), (4, jI i), (5, jI 1), (6, jI _)] [jI 1] h2 Q
    refine wp_iload 5 dL_law_971 rfl ?_
    refine wp_icmp_eq 978 dL_law_973 rfl (fun _ => ?_) (fun q => absurd rfl q)
    refine wp_iload 5 dL_law_978 rfl ?_
    refine wp_if_ne 995 dL_law_980 rfl (fun _ => ?_) (fun q => absurd q (by decide))
    refine wp_goto 1482 dL_law_995 rfl ?_
    refine wp_sub [0, 1, 2, 3, 4] (ls' := [(0, jR 4), (1, jR 10), (2, jR 734), (3, jR 764), (4, jI i)]) rfl ?_
    exact k h2 _ I2 (J) (by omega) (by omega)
  ·
    obtain ⟨I0, e1, g1⟩ := I.p f1 ⟨by omega, by omega⟩ H1
    have I1 := I0.o (s.2.1.2 (hA b 4 (i + 1)).toNat).length
    show jWp 14 mL_law 953 [(0, jR 4), (1, jR 10), (2, jR 734), (3, jR 764), (4, jI i)] [jI 0] _ Q
    refine wp_istore [1, 2, 3, 4, 5, 0] (ls' := [(0, jR 4), (1, jR 10), (2, jR 734), (3, jR 764), (4, jI i), (5, jI 0)]) dL_law_953 (by decide) rfl ?_
    refine wp_aload_n 2 dL_law_955 rfl ?_
    refine wp_aload_n 0 dL_law_956 rfl ?_
    refine wp_iload 4 dL_law_957 rfl ?_
    refine wp_iconst dL_law_959 ⟨by decide, by decide⟩ ?_
    refine wp_iadd dL_law_960 ⟨by omega, by omega⟩ ?_
    refine wp_script dL_law_961 I1.k4 (by omega) (by rw [I1.n4]; omega) (fun _ => ?_)
    rw [I1.sc]
    refine wp_callV (ci := 8) (y' := mX11_fetch) (st := []) [jI (hA b 4 (i + 1))] rfl rfl rfl fX11_fetch kL_132 nX11_fetch dL_law_962 (Nat.le_of_ble_eq_true rfl) I1.k734 ?_
    refine v_fetch (d := 11) I1.2.1 (fun y h2 f2 H2 t2 => by exfalso; omega) (fun y0 y1 h2 f2 H2 t2 => ?_)
    have ev := I1.v f2 (by decide)
    obtain ⟨I2, e2, g2⟩ := I1.m f2 (by decide) H2
    simp only [hS_sA, hT_sA] at e2 g2
    show jWp 14 mL_law 965 [(0, jR 4), (1, jR 10), (2, jR 734), (3, jR 764), (4, jI i), (5, jI 0)] [jI _] h2 Q
    refine wp_istore [1, 2, 3, 4, 5, 6, 0] (ls' := [(0, jR 4), (1, jR 10), (2, jR 734), (3, jR 764), (4, jI i), (5, jI 0), (6, jI _)]) dL_law_965 (by decide) rfl ?_
    refine wp_aload_n 2 dL_law_967 rfl ?_
    refine wp_callV (ci := 8) (y' := mX11_thrown) (st := []) [] rfl rfl rfl fX11_thrown kL_94 nX11_thrown dL_law_968 (Nat.le_of_ble_eq_true rfl) I2.k734 ?_
    refine n_thrown I2.2.1.1 ?_
    rw [t2]
    show jWp 14 mL_law 971 [(0, jR 4), (1, jR 10), (2, jR 734), (3, jR 764), (4, jI i), (5, jI 0), (6, jI _)] [jI 0] h2 Q
    refine wp_iload 5 dL_law_971 rfl ?_
    refine wp_icmp_eq 978 dL_law_973 rfl (fun _ => ?_) (fun q => absurd rfl q)
    refine wp_iload 5 dL_law_978 rfl ?_
    refine wp_if_ne 995 dL_law_980 rfl (fun q => absurd rfl q) (fun _ => ?_)
    refine wp_aload_n 3 dL_law_983 rfl ?_
    refine wp_iconst dL_law_984 ⟨by decide, by decide⟩ ?_
    refine wp_laload dL_law_985 I2.2.2.1 (by decide) (by rw [I2.2.2.2.1]; decide) (fun _ => ?_)
    rw [ev, hA_sA, if_pos ⟨rfl, rfl⟩]
    refine wp_iload 6 dL_law_986 rfl ?_
    refine wp_i2l dL_law_988 ?_
    refine wp_lcmp dL_law_989 ?_
    rw [cmp0]
    refine wp_if_eq 995 dL_law_990 rfl (fun _ => ?_) (fun q => absurd rfl q)
    refine wp_goto 1482 dL_law_995 rfl ?_
    refine wp_sub [0, 1, 2, 3, 4] (ls' := [(0, jR 4), (1, jR 10), (2, jR 734), (3, jR 764), (4, jI i)]) rfl ?_
    exact k h2 _ I2 (I_fetch J (by omega)) (by omega) (by omega)
theorem lc_18 (I : lwH b h s s) (J : jInv s) (hi : 0 ≤ i ∧ i + 6 ≤ hN b 4) (k : lwK b h i Q) : jWp 14 mL_law 998 [(0, jR 4), (1, jR 10), (2, jR 734), (3, jR 764), (4, jI i)] [] h Q := by
  have le := I.2.2.2.2.2.2.2.2
  refine wp_aload_n 1 dL_law_998 rfl ?_
  refine wp_aload_n 0 dL_law_999 rfl ?_
  refine wp_iload 4 dL_law_1000 rfl ?_
  refine wp_iconst dL_law_1002 ⟨by decide, by decide⟩ ?_
  refine wp_iadd dL_law_1003 ⟨by omega, by omega⟩ ?_
  refine wp_script dL_law_1004 I.k4 (by omega) (by rw [I.n4]; omega) (fun _ => ?_)
  rw [I.sc]
  refine wp_aload_n 3 dL_law_1005 rfl ?_
  refine wp_callS (y' := mL_same) (st := []) [jR 10, jI (hA b 4 (i + 1)), jR 764] rfl fL_same kL_133 nL_same dL_law_1006 (Nat.le_of_ble_eq_true rfl) ?_
  refine l_same (d := 12) (P := fun r h' => (∃ v, r = .inl (some (jI v)) ∧ (v = 0 ∨ v = 1) ∧ hK h' 764 = 13 ∧ 0 < hN h' 764 ∧ jAft 14 mL_law 1006 [(0, jR 4), (1, jR 10), (2, jR 734), (3, jR 764), (4, jI i)] [] Q (.inl (some (jI 0))) (sA h' 764 0 v)) ∨ (r = .inr "java/lang/IndexOutOfBoundsException" ∧ jAft 14 mL_law 1006 [(0, jR 4), (1, jR 10), (2, jR 734), (3, jR 764), (4, jI i)] [] Q (.inl (some (jI 1))) h')) I.k10 (u_sameS (d := 5) I.1 (fun z => .inr ⟨rfl, ?_⟩) (fun z0 z1 => .inl ⟨_, rfl, lw_b2 _, I.2.2.1, by rw [I.2.2.2.1]; decide, ?_⟩)) (fun r h' p => p)
  ·
    have I1 := I.x
    have e1 : hS (sN h 16 0 6) = hS h + 1 := rfl
    have g1 : hT (sN h 16 0 6) = hT h + 6 := rfl
    show jWp 14 mL_law 1009 [(0, jR 4), (1, jR 10), (2, jR 734), (3, jR 764), (4, jI i)] [jI 1] _ Q
    refine wp_istore [1, 2, 3, 4, 5, 0] (ls' := [(0, jR 4), (1, jR 10), (2, jR 734), (3, jR 764), (4, jI i), (5, jI 1)]) dL_law_1009 (by decide) rfl ?_
    refine wp_aload_n 2 dL_law_1011 rfl ?_
    refine wp_aload_n 0 dL_law_1012 rfl ?_
    refine wp_iload 4 dL_law_1013 rfl ?_
    refine wp_iconst dL_law_1015 ⟨by decide, by decide⟩ ?_
    refine wp_iadd dL_law_1016 ⟨by omega, by omega⟩ ?_
    refine wp_script dL_law_1017 I1.k4 (by omega) (by rw [I1.n4]; omega) (fun _ => ?_)
    rw [I1.sc]
    refine wp_callV (ci := 8) (y' := mX11_same) (st := []) [jI (hA b 4 (i + 1))] rfl rfl rfl fX11_same kL_135 nX11_same dL_law_1018 (Nat.le_of_ble_eq_true rfl) I1.k734 ?_
    refine v_same (d := 11) I1.2.1 (fun y h2 f2 H2 t2 => ?_) (fun y0 y1 h2 f2 H2 t2 => by exfalso; omega)
    obtain ⟨I2, e2, g2⟩ := I1.m f2 (by decide) H2
    show jWp 14 mL_law 1021 [(0, jR 4), (1, jR 10), (2, jR 734), (3, jR 764), (4, jI i), (5, jI 1)] [jI _] h2 Q
    refine wp_istore [1, 2, 3, 4, 5, 6, 0] (ls' := [(0, jR 4), (1, jR 10), (2, jR 734), (3, jR 764), (4, jI i), (5, jI 1), (6, jI _)]) dL_law_1021 (by decide) rfl ?_
    refine wp_aload_n 2 dL_law_1023 rfl ?_
    refine wp_callV (ci := 8) (y' := mX11_thrown) (st := []) [] rfl rfl rfl fX11_thrown kL_94 nX11_thrown dL_law_1024 (Nat.le_of_ble_eq_true rfl) I2.k734 ?_
    refine n_thrown I2.2.1.1 ?_
    rw [t2]
    show jWp 14 mL_law 1027 [(0, jR 4), (1, jR 10), (2, jR 734), (3, jR 764), (4, jI i), (5, jI 1), (6, jI _)] [jI 1] h2 Q
    refine wp_iload 5 dL_law_1027 rfl ?_
    refine wp_icmp_eq 1034 dL_law_1029 rfl (fun _ => ?_) (fun q => absurd rfl q)
    refine wp_iload 5 dL_law_1034 rfl ?_
    refine wp_if_ne 1058 dL_law_1036 rfl (fun _ => ?_) (fun q => absurd q (by decide))
    refine wp_goto 1482 dL_law_1058 rfl ?_
    refine wp_sub [0, 1, 2, 3, 4] (ls' := [(0, jR 4), (1, jR 10), (2, jR 734), (3, jR 764), (4, jI i)]) rfl ?_
    exact k h2 _ I2 (J) (by omega) (by omega)
  ·
    have I1 := I.o (b2i (decide (s.2.1.1.map keyE = (s.2.1.2 (hA b 4 (i + 1)).toNat).map keyE)))
    have e1 : hS (sA h 764 0 (b2i (decide (s.2.1.1.map keyE = (s.2.1.2 (hA b 4 (i + 1)).toNat).map keyE)))) = hS h := rfl
    have g1 : hT (sA h 764 0 (b2i (decide (s.2.1.1.map keyE = (s.2.1.2 (hA b 4 (i + 1)).toNat).map keyE)))) = hT h := rfl
    show jWp 14 mL_law 1009 [(0, jR 4), (1, jR 10), (2, jR 734), (3, jR 764), (4, jI i)] [jI 0] _ Q
    refine wp_istore [1, 2, 3, 4, 5, 0] (ls' := [(0, jR 4), (1, jR 10), (2, jR 734), (3, jR 764), (4, jI i), (5, jI 0)]) dL_law_1009 (by decide) rfl ?_
    refine wp_aload_n 2 dL_law_1011 rfl ?_
    refine wp_aload_n 0 dL_law_1012 rfl ?_
    refine wp_iload 4 dL_law_1013 rfl ?_
    refine wp_iconst dL_law_1015 ⟨by decide, by decide⟩ ?_
    refine wp_iadd dL_law_1016 ⟨by omega, by omega⟩ ?_
    refine wp_script dL_law_1017 I1.k4 (by omega) (by rw [I1.n4]; omega) (fun _ => ?_)
    rw [I1.sc]
    refine wp_callV (ci := 8) (y' := mX11_same) (st := []) [jI (hA b 4 (i + 1))] rfl rfl rfl fX11_same kL_135 nX11_same dL_law_1018 (Nat.le_of_ble_eq_true rfl) I1.k734 ?_
    refine v_same (d := 11) I1.2.1 (fun y h2 f2 H2 t2 => by exfalso; omega) (fun y0 y1 h2 f2 H2 t2 => ?_)
    have ev := I1.v f2 (by decide)
    obtain ⟨I2, e2, g2⟩ := I1.m f2 (by decide) H2
    show jWp 14 mL_law 1021 [(0, jR 4), (1, jR 10), (2, jR 734), (3, jR 764), (4, jI i), (5, jI 0)] [jI _] h2 Q
    refine wp_istore [1, 2, 3, 4, 5, 6, 0] (ls' := [(0, jR 4), (1, jR 10), (2, jR 734), (3, jR 764), (4, jI i), (5, jI 0), (6, jI _)]) dL_law_1021 (by decide) rfl ?_
    refine wp_aload_n 2 dL_law_1023 rfl ?_
    refine wp_callV (ci := 8) (y' := mX11_thrown) (st := []) [] rfl rfl rfl fX11_thrown kL_94 nX11_thrown dL_law_1024 (Nat.le_of_ble_eq_true rfl) I2.k734 ?_
    refine n_thrown I2.2.1.1 ?_
    rw [t2]
    show jWp 14 mL_law 1027 [(0, jR 4), (1, jR 10), (2, jR 734), (3, jR 764), (4, jI i), (5, jI 0), (6, jI _)] [jI 0] h2 Q
    refine wp_iload 5 dL_law_1027 rfl ?_
    refine wp_icmp_eq 1034 dL_law_1029 rfl (fun _ => ?_) (fun q => absurd rfl q)
    refine wp_iload 5 dL_law_1034 rfl ?_
    refine wp_if_ne 1058 dL_law_1036 rfl (fun q => absurd rfl q) (fun _ => ?_)
    refine wp_aload_n 3 dL_law_1039 rfl ?_
    refine wp_iconst dL_law_1040 ⟨by decide, by decide⟩ ?_
    refine wp_laload dL_law_1041 I2.2.2.1 (by decide) (by rw [I2.2.2.2.1]; decide) (fun _ => ?_)
    rw [ev, hA_sA, if_pos ⟨rfl, rfl⟩]
    refine wp_iload 6 dL_law_1042 rfl ?_
    have fin : jWp 14 mL_law 1058 [(0, jR 4), (1, jR 10), (2, jR 734), (3, jR 764), (4, jI i), (5, jI 0), (6, jI (b2i (decide (s.2.1.1.map keyE = (s.2.1.2 (hA b 4 (i + 1)).toNat).map keyE))))] [] h2 Q := by
      refine wp_goto 1482 dL_law_1058 rfl ?_
      refine wp_sub [0, 1, 2, 3, 4] (ls' := [(0, jR 4), (1, jR 10), (2, jR 734), (3, jR 764), (4, jI i)]) rfl ?_
      exact k h2 _ I2 J (by omega) (by omega)
    refine wp_if_eq 1051 dL_law_1044 rfl (fun z => ?_) (fun z => ?_)
    ·
      rw [z] at fin ⊢
      refine wp_lconst (z := 0) dL_law_1051 rfl ?_
      refine wp_lcmp dL_law_1052 ?_
      rw [cmp0]
      exact wp_if_eq 1058 dL_law_1053 rfl (fun _ => fin) (fun q => absurd rfl q)
    ·
      have z1 := (lw_b2 _).resolve_left z
      rw [z1] at fin ⊢
      refine wp_lconst (z := 1) dL_law_1047 rfl ?_
      refine wp_goto 1052 dL_law_1048 rfl ?_
      refine wp_lcmp dL_law_1052 ?_
      rw [cmp0]
      exact wp_if_eq 1058 dL_law_1053 rfl (fun _ => fin) (fun q => absurd rfl q)
theorem lc_19 (I : lwH b h s s) (J : jInv s) (hi : 0 ≤ i ∧ i + 6 ≤ hN b 4) (k : lwK b h i Q) : jWp 14 mL_law 1061 [(0, jR 4), (1, jR 10), (2, jR 734), (3, jR 764), (4, jI i)] [] h Q := by
  have le := I.2.2.2.2.2.2.2.2
  refine wp_aload_n 1 dL_law_1061 rfl ?_
  refine wp_aload_n 0 dL_law_1062 rfl ?_
  refine wp_iload 4 dL_law_1063 rfl ?_
  refine wp_iconst dL_law_1065 ⟨by decide, by decide⟩ ?_
  refine wp_iadd dL_law_1066 ⟨by omega, by omega⟩ ?_
  refine wp_script dL_law_1067 I.k4 (by omega) (by rw [I.n4]; omega) (fun _ => ?_)
  rw [I.sc]
  refine wp_aload_n 3 dL_law_1068 rfl ?_
  refine wp_callS (y' := mL_join) (st := []) [jR 10, jI (hA b 4 (i + 1)), jR 764] rfl fL_join kL_136 nL_join dL_law_1069 (Nat.le_of_ble_eq_true rfl) ?_
  refine l_join (d := 12) (P := fun r h' => (∃ v, r = .inl (some (jI v)) ∧ hK h' 764 = 13 ∧ 0 < hN h' 764 ∧ jAft 14 mL_law 1069 [(0, jR 4), (1, jR 10), (2, jR 734), (3, jR 764), (4, jI i)] [] Q (.inl (some (jI 0))) (sA h' 764 0 v)) ∨ (r = .inr "java/lang/IndexOutOfBoundsException" ∧ jAft 14 mL_law 1069 [(0, jR 4), (1, jR 10), (2, jR 734), (3, jR 764), (4, jI i)] [] Q (.inl (some (jI 1))) h')) I.k10 (u_join (d := 5) I.1 (fun z => .inr ⟨rfl, ?_⟩) (fun z0 z1 h1 f1 H1 => .inl ⟨_, rfl, (I.p f1 ⟨by omega, by omega⟩ H1).1.2.2.1, by rw [(I.p f1 ⟨by omega, by omega⟩ H1).1.2.2.2.1]; decide, ?_⟩)) (fun r h' p => p)
  ·
    have I1 := I.x
    have e1 : hS (sN h 16 0 6) = hS h + 1 := rfl
    have g1 : hT (sN h 16 0 6) = hT h + 6 := rfl
    show jWp 14 mL_law 1072 [(0, jR 4), (1, jR 10), (2, jR 734), (3, jR 764), (4, jI i)] [jI 1] _ Q
    refine wp_istore [1, 2, 3, 4, 5, 0] (ls' := [(0, jR 4), (1, jR 10), (2, jR 734), (3, jR 764), (4, jI i), (5, jI 1)]) dL_law_1072 (by decide) rfl ?_
    refine wp_aload_n 2 dL_law_1074 rfl ?_
    refine wp_aload_n 0 dL_law_1075 rfl ?_
    refine wp_iload 4 dL_law_1076 rfl ?_
    refine wp_iconst dL_law_1078 ⟨by decide, by decide⟩ ?_
    refine wp_iadd dL_law_1079 ⟨by omega, by omega⟩ ?_
    refine wp_script dL_law_1080 I1.k4 (by omega) (by rw [I1.n4]; omega) (fun _ => ?_)
    rw [I1.sc]
    refine wp_callV (ci := 8) (y' := mX11_join) (st := []) [jI (hA b 4 (i + 1))] rfl rfl rfl fX11_join kL_138 nX11_join dL_law_1081 (Nat.le_of_ble_eq_true rfl) I1.k734 ?_
    refine v_join (d := 10) I1.2.1 (fun y h2 f2 H2 t2 => ?_) (fun y0 y1 h2 f2 H2 t2 => by exfalso; omega)
    obtain ⟨I2, e2, g2⟩ := I1.m f2 (by decide) H2
    show jWp 14 mL_law 1084 [(0, jR 4), (1, jR 10), (2, jR 734), (3, jR 764), (4, jI i), (5, jI 1)] [jI _] h2 Q
    refine wp_istore [1, 2, 3, 4, 5, 6, 0] (ls' := [(0, jR 4), (1, jR 10), (2, jR 734), (3, jR 764), (4, jI i), (5, jI 1), (6, jI _)]) dL_law_1084 (by decide) rfl ?_
    refine wp_aload_n 2 dL_law_1086 rfl ?_
    refine wp_callV (ci := 8) (y' := mX11_thrown) (st := []) [] rfl rfl rfl fX11_thrown kL_94 nX11_thrown dL_law_1087 (Nat.le_of_ble_eq_true rfl) I2.k734 ?_
    refine n_thrown I2.2.1.1 ?_
    rw [t2]
    show jWp 14 mL_law 1090 [(0, jR 4), (1, jR 10), (2, jR 734), (3, jR 764), (4, jI i), (5, jI 1), (6, jI _)] [jI 1] h2 Q
    refine wp_iload 5 dL_law_1090 rfl ?_
    refine wp_icmp_eq 1097 dL_law_1092 rfl (fun _ => ?_) (fun q => absurd rfl q)
    refine wp_iload 5 dL_law_1097 rfl ?_
    refine wp_if_ne 1114 dL_law_1099 rfl (fun _ => ?_) (fun q => absurd q (by decide))
    refine wp_goto 1482 dL_law_1114 rfl ?_
    refine wp_sub [0, 1, 2, 3, 4] (ls' := [(0, jR 4), (1, jR 10), (2, jR 734), (3, jR 764), (4, jI i)]) rfl ?_
    exact k h2 _ I2 (J) (by omega) (by omega)
  ·
    obtain ⟨I0, e1, g1⟩ := I.p f1 ⟨by omega, by omega⟩ H1
    have I1 := I0.o (joinV s (s.2.1.2 (hA b 4 (i + 1)).toNat)).1
    show jWp 14 mL_law 1072 [(0, jR 4), (1, jR 10), (2, jR 734), (3, jR 764), (4, jI i)] [jI 0] _ Q
    refine wp_istore [1, 2, 3, 4, 5, 0] (ls' := [(0, jR 4), (1, jR 10), (2, jR 734), (3, jR 764), (4, jI i), (5, jI 0)]) dL_law_1072 (by decide) rfl ?_
    refine wp_aload_n 2 dL_law_1074 rfl ?_
    refine wp_aload_n 0 dL_law_1075 rfl ?_
    refine wp_iload 4 dL_law_1076 rfl ?_
    refine wp_iconst dL_law_1078 ⟨by decide, by decide⟩ ?_
    refine wp_iadd dL_law_1079 ⟨by omega, by omega⟩ ?_
    refine wp_script dL_law_1080 I1.k4 (by omega) (by rw [I1.n4]; omega) (fun _ => ?_)
    rw [I1.sc]
    refine wp_callV (ci := 8) (y' := mX11_join) (st := []) [jI (hA b 4 (i + 1))] rfl rfl rfl fX11_join kL_138 nX11_join dL_law_1081 (Nat.le_of_ble_eq_true rfl) I1.k734 ?_
    refine v_join (d := 10) I1.2.1 (fun y h2 f2 H2 t2 => by exfalso; omega) (fun y0 y1 h2 f2 H2 t2 => ?_)
    have ev := I1.v f2 (by decide)
    obtain ⟨I2, e2, g2⟩ := I1.m f2 (by decide) H2
    simp only [hS_sA, hT_sA] at e2 g2
    show jWp 14 mL_law 1084 [(0, jR 4), (1, jR 10), (2, jR 734), (3, jR 764), (4, jI i), (5, jI 0)] [jI _] h2 Q
    refine wp_istore [1, 2, 3, 4, 5, 6, 0] (ls' := [(0, jR 4), (1, jR 10), (2, jR 734), (3, jR 764), (4, jI i), (5, jI 0), (6, jI _)]) dL_law_1084 (by decide) rfl ?_
    refine wp_aload_n 2 dL_law_1086 rfl ?_
    refine wp_callV (ci := 8) (y' := mX11_thrown) (st := []) [] rfl rfl rfl fX11_thrown kL_94 nX11_thrown dL_law_1087 (Nat.le_of_ble_eq_true rfl) I2.k734 ?_
    refine n_thrown I2.2.1.1 ?_
    rw [t2]
    show jWp 14 mL_law 1090 [(0, jR 4), (1, jR 10), (2, jR 734), (3, jR 764), (4, jI i), (5, jI 0), (6, jI _)] [jI 0] h2 Q
    refine wp_iload 5 dL_law_1090 rfl ?_
    refine wp_icmp_eq 1097 dL_law_1092 rfl (fun _ => ?_) (fun q => absurd rfl q)
    refine wp_iload 5 dL_law_1097 rfl ?_
    refine wp_if_ne 1114 dL_law_1099 rfl (fun q => absurd rfl q) (fun _ => ?_)
    refine wp_aload_n 3 dL_law_1102 rfl ?_
    refine wp_iconst dL_law_1103 ⟨by decide, by decide⟩ ?_
    refine wp_laload dL_law_1104 I2.2.2.1 (by decide) (by rw [I2.2.2.2.1]; decide) (fun _ => ?_)
    rw [ev, hA_sA, if_pos ⟨rfl, rfl⟩]
    refine wp_iload 6 dL_law_1105 rfl ?_
    refine wp_i2l dL_law_1107 ?_
    refine wp_lcmp dL_law_1108 ?_
    rw [cmp0]
    refine wp_if_eq 1114 dL_law_1109 rfl (fun _ => ?_) (fun q => absurd rfl q)
    refine wp_goto 1482 dL_law_1114 rfl ?_
    refine wp_sub [0, 1, 2, 3, 4] (ls' := [(0, jR 4), (1, jR 10), (2, jR 734), (3, jR 764), (4, jI i)]) rfl ?_
    exact k h2 _ I2 (I_join J (by omega)) (by omega) (by omega)
theorem lc_21 (I : lwH b h s s) (J : jInv s) (hi : 0 ≤ i ∧ i + 6 ≤ hN b 4) (k : lwK b h i Q) : jWp 14 mL_law 1130 [(0, jR 4), (1, jR 10), (2, jR 734), (3, jR 764), (4, jI i)] [] h Q := by
  have le := I.2.2.2.2.2.2.2.2
  refine wp_aload_n 1 dL_law_1130 rfl ?_
  refine wp_aload_n 0 dL_law_1131 rfl ?_
  refine wp_iload 4 dL_law_1132 rfl ?_
  refine wp_iconst dL_law_1134 ⟨by decide, by decide⟩ ?_
  refine wp_iadd dL_law_1135 ⟨by omega, by omega⟩ ?_
  refine wp_script dL_law_1136 I.k4 (by omega) (by rw [I.n4]; omega) (fun _ => ?_)
  rw [I.sc]
  refine wp_aload_n 3 dL_law_1137 rfl ?_
  refine wp_callS (y' := mL_symbol) (st := []) [jR 10, jI (hA b 4 (i + 1)), jR 764] rfl fL_symbol kL_143 nL_symbol dL_law_1138 (Nat.le_of_ble_eq_true rfl) ?_
  refine l_symbol (d := 12) (P := fun r h' => (∃ v, r = .inl (some (jI v)) ∧ hK h' 764 = 13 ∧ 0 < hN h' 764 ∧ jAft 14 mL_law 1138 [(0, jR 4), (1, jR 10), (2, jR 734), (3, jR 764), (4, jI i)] [] Q (.inl (some (jI 0))) (sA h' 764 0 v)) ∨ (r = .inr "java/lang/IndexOutOfBoundsException" ∧ jAft 14 mL_law 1138 [(0, jR 4), (1, jR 10), (2, jR 734), (3, jR 764), (4, jI i)] [] Q (.inl (some (jI 1))) h')) I.k10 (u_symbol (d := 5) J.byt I.1 (fun z => .inr ⟨rfl, ?_⟩) (fun z0 z1 h1 f1 H1 => .inl ⟨_, rfl, (I.p f1 ⟨by omega, by omega⟩ H1).1.2.2.1, by rw [(I.p f1 ⟨by omega, by omega⟩ H1).1.2.2.2.1]; decide, ?_⟩)) (fun r h' p => p)
  ·
    have I1 := I.x
    have e1 : hS (sN h 16 0 6) = hS h + 1 := rfl
    have g1 : hT (sN h 16 0 6) = hT h + 6 := rfl
    show jWp 14 mL_law 1141 [(0, jR 4), (1, jR 10), (2, jR 734), (3, jR 764), (4, jI i)] [jI 1] _ Q
    refine wp_istore [1, 2, 3, 4, 5, 0] (ls' := [(0, jR 4), (1, jR 10), (2, jR 734), (3, jR 764), (4, jI i), (5, jI 1)]) dL_law_1141 (by decide) rfl ?_
    refine wp_aload_n 2 dL_law_1143 rfl ?_
    refine wp_aload_n 0 dL_law_1144 rfl ?_
    refine wp_iload 4 dL_law_1145 rfl ?_
    refine wp_iconst dL_law_1147 ⟨by decide, by decide⟩ ?_
    refine wp_iadd dL_law_1148 ⟨by omega, by omega⟩ ?_
    refine wp_script dL_law_1149 I1.k4 (by omega) (by rw [I1.n4]; omega) (fun _ => ?_)
    rw [I1.sc]
    refine wp_callV (ci := 8) (y' := mX11_symbol) (st := []) [jI (hA b 4 (i + 1))] rfl rfl rfl fX11_symbol kL_145 nX11_symbol dL_law_1150 (Nat.le_of_ble_eq_true rfl) I1.k734 ?_
    refine v_symbol (d := 10) J.byt I1.2.1 (fun y h2 f2 H2 t2 => ?_) (fun y0 y1 h2 f2 H2 t2 => by exfalso; omega)
    obtain ⟨I2, e2, g2⟩ := I1.m f2 (by decide) H2
    show jWp 14 mL_law 1153 [(0, jR 4), (1, jR 10), (2, jR 734), (3, jR 764), (4, jI i), (5, jI 1)] [jI _] h2 Q
    refine wp_istore [1, 2, 3, 4, 5, 6, 0] (ls' := [(0, jR 4), (1, jR 10), (2, jR 734), (3, jR 764), (4, jI i), (5, jI 1), (6, jI _)]) dL_law_1153 (by decide) rfl ?_
    refine wp_aload_n 2 dL_law_1155 rfl ?_
    refine wp_callV (ci := 8) (y' := mX11_thrown) (st := []) [] rfl rfl rfl fX11_thrown kL_94 nX11_thrown dL_law_1156 (Nat.le_of_ble_eq_true rfl) I2.k734 ?_
    refine n_thrown I2.2.1.1 ?_
    rw [t2]
    show jWp 14 mL_law 1159 [(0, jR 4), (1, jR 10), (2, jR 734), (3, jR 764), (4, jI i), (5, jI 1), (6, jI _)] [jI 1] h2 Q
    refine wp_iload 5 dL_law_1159 rfl ?_
    refine wp_icmp_eq 1166 dL_law_1161 rfl (fun _ => ?_) (fun q => absurd rfl q)
    refine wp_iload 5 dL_law_1166 rfl ?_
    refine wp_if_ne 1183 dL_law_1168 rfl (fun _ => ?_) (fun q => absurd q (by decide))
    refine wp_goto 1482 dL_law_1183 rfl ?_
    refine wp_sub [0, 1, 2, 3, 4] (ls' := [(0, jR 4), (1, jR 10), (2, jR 734), (3, jR 764), (4, jI i)]) rfl ?_
    exact k h2 _ I2 (J) (by omega) (by omega)
  ·
    obtain ⟨I0, e1, g1⟩ := I.p f1 ⟨by omega, by omega⟩ H1
    have I1 := I0.o (symV s (hA b 4 (i + 1)).toNat).1
    show jWp 14 mL_law 1141 [(0, jR 4), (1, jR 10), (2, jR 734), (3, jR 764), (4, jI i)] [jI 0] _ Q
    refine wp_istore [1, 2, 3, 4, 5, 0] (ls' := [(0, jR 4), (1, jR 10), (2, jR 734), (3, jR 764), (4, jI i), (5, jI 0)]) dL_law_1141 (by decide) rfl ?_
    refine wp_aload_n 2 dL_law_1143 rfl ?_
    refine wp_aload_n 0 dL_law_1144 rfl ?_
    refine wp_iload 4 dL_law_1145 rfl ?_
    refine wp_iconst dL_law_1147 ⟨by decide, by decide⟩ ?_
    refine wp_iadd dL_law_1148 ⟨by omega, by omega⟩ ?_
    refine wp_script dL_law_1149 I1.k4 (by omega) (by rw [I1.n4]; omega) (fun _ => ?_)
    rw [I1.sc]
    refine wp_callV (ci := 8) (y' := mX11_symbol) (st := []) [jI (hA b 4 (i + 1))] rfl rfl rfl fX11_symbol kL_145 nX11_symbol dL_law_1150 (Nat.le_of_ble_eq_true rfl) I1.k734 ?_
    refine v_symbol (d := 10) J.byt I1.2.1 (fun y h2 f2 H2 t2 => by exfalso; omega) (fun y0 y1 h2 f2 H2 t2 => ?_)
    have ev := I1.v f2 (by decide)
    obtain ⟨I2, e2, g2⟩ := I1.m f2 (by decide) H2
    simp only [hS_sA, hT_sA] at e2 g2
    show jWp 14 mL_law 1153 [(0, jR 4), (1, jR 10), (2, jR 734), (3, jR 764), (4, jI i), (5, jI 0)] [jI _] h2 Q
    refine wp_istore [1, 2, 3, 4, 5, 6, 0] (ls' := [(0, jR 4), (1, jR 10), (2, jR 734), (3, jR 764), (4, jI i), (5, jI 0), (6, jI _)]) dL_law_1153 (by decide) rfl ?_
    refine wp_aload_n 2 dL_law_1155 rfl ?_
    refine wp_callV (ci := 8) (y' := mX11_thrown) (st := []) [] rfl rfl rfl fX11_thrown kL_94 nX11_thrown dL_law_1156 (Nat.le_of_ble_eq_true rfl) I2.k734 ?_
    refine n_thrown I2.2.1.1 ?_
    rw [t2]
    show jWp 14 mL_law 1159 [(0, jR 4), (1, jR 10), (2, jR 734), (3, jR 764), (4, jI i), (5, jI 0), (6, jI _)] [jI 0] h2 Q
    refine wp_iload 5 dL_law_1159 rfl ?_
    refine wp_icmp_eq 1166 dL_law_1161 rfl (fun _ => ?_) (fun q => absurd rfl q)
    refine wp_iload 5 dL_law_1166 rfl ?_
    refine wp_if_ne 1183 dL_law_1168 rfl (fun q => absurd rfl q) (fun _ => ?_)
    refine wp_aload_n 3 dL_law_1171 rfl ?_
    refine wp_iconst dL_law_1172 ⟨by decide, by decide⟩ ?_
    refine wp_laload dL_law_1173 I2.2.2.1 (by decide) (by rw [I2.2.2.2.1]; decide) (fun _ => ?_)
    rw [ev, hA_sA, if_pos ⟨rfl, rfl⟩]
    refine wp_iload 6 dL_law_1174 rfl ?_
    refine wp_i2l dL_law_1176 ?_
    refine wp_lcmp dL_law_1177 ?_
    rw [cmp0]
    refine wp_if_eq 1183 dL_law_1178 rfl (fun _ => ?_) (fun q => absurd rfl q)
    refine wp_goto 1482 dL_law_1183 rfl ?_
    refine wp_sub [0, 1, 2, 3, 4] (ls' := [(0, jR 4), (1, jR 10), (2, jR 734), (3, jR 764), (4, jI i)]) rfl ?_
    exact k h2 _ I2 (I_symbol J _) (by omega) (by omega)
theorem lc_23 (I : lwH b h s s) (J : jInv s) (hi : 0 ≤ i ∧ i + 6 ≤ hN b 4) (k : lwK b h i Q) : jWp 14 mL_law 1211 [(0, jR 4), (1, jR 10), (2, jR 734), (3, jR 764), (4, jI i)] [] h Q := by
  have le := I.2.2.2.2.2.2.2.2
  refine wp_aload_n 1 dL_law_1211 rfl ?_
  refine wp_aload_n 3 dL_law_1212 rfl ?_
  refine wp_callS (y' := mL_print) (st := []) [jR 10, jR 764] rfl fL_print kL_150 nL_print dL_law_1213 (Nat.le_of_ble_eq_true rfl) ?_
  refine l_print (d := 12) (P := fun r h' => (∃ v, r = .inl (some (jI v)) ∧ hK h' 764 = 13 ∧ 0 < hN h' 764 ∧ jAft 14 mL_law 1213 [(0, jR 4), (1, jR 10), (2, jR 734), (3, jR 764), (4, jI i)] [] Q (.inl (some (jI 0))) (sA h' 764 0 v)) ∨ (r = .inr "java/lang/IllegalStateException" ∧ jAft 14 mL_law 1213 [(0, jR 4), (1, jR 10), (2, jR 734), (3, jR 764), (4, jI i)] [] Q (.inl (some (jI 1))) h')) I.k10 (u_print (d := 6) I.1 (fun z => .inr ⟨rfl, ?_⟩) (fun z h1 f1 H1 => .inl ⟨_, rfl, (I.p f1.fr ⟨by decide, by decide⟩ H1).1.2.2.1, by rw [(I.p f1.fr ⟨by decide, by decide⟩ H1).1.2.2.2.1]; decide, ?_⟩)) (fun r h' p => p)
  ·
    have I1 := I.x
    have e1 : hS (sN h 16 0 6) = hS h + 1 := rfl
    have g1 : hT (sN h 16 0 6) = hT h + 6 := rfl
    show jWp 14 mL_law 1216 [(0, jR 4), (1, jR 10), (2, jR 734), (3, jR 764), (4, jI i)] [jI 1] _ Q
    refine wp_istore [1, 2, 3, 4, 5, 0] (ls' := [(0, jR 4), (1, jR 10), (2, jR 734), (3, jR 764), (4, jI i), (5, jI 1)]) dL_law_1216 (by decide) rfl ?_
    refine wp_aload_n 2 dL_law_1218 rfl ?_
    refine wp_callV (ci := 8) (y' := mX11_print) (st := []) [] rfl rfl rfl fX11_print kL_153 nX11_print dL_law_1219 (Nat.le_of_ble_eq_true rfl) I1.k734 ?_
    refine v_print (d := 12) J.sym I1.2.1 (fun y h2 f2 H2 t2 => ?_) (fun y h2 f2 H2 t2 => absurd z y)
    obtain ⟨I2, e2, g2⟩ := I1.m f2 (by decide) H2
    show jWp 14 mL_law 1222 [(0, jR 4), (1, jR 10), (2, jR 734), (3, jR 764), (4, jI i), (5, jI 1)] [jI _] h2 Q
    refine wp_istore [1, 2, 3, 4, 5, 6, 0] (ls' := [(0, jR 4), (1, jR 10), (2, jR 734), (3, jR 764), (4, jI i), (5, jI 1), (6, jI _)]) dL_law_1222 (by decide) rfl ?_
    refine wp_aload_n 2 dL_law_1224 rfl ?_
    refine wp_callV (ci := 8) (y' := mX11_thrown) (st := []) [] rfl rfl rfl fX11_thrown kL_94 nX11_thrown dL_law_1225 (Nat.le_of_ble_eq_true rfl) I2.k734 ?_
    refine n_thrown I2.2.1.1 ?_
    rw [t2]
    show jWp 14 mL_law 1228 [(0, jR 4), (1, jR 10), (2, jR 734), (3, jR 764), (4, jI i), (5, jI 1), (6, jI _)] [jI 1] h2 Q
    refine wp_iload 5 dL_law_1228 rfl ?_
    refine wp_icmp_eq 1235 dL_law_1230 rfl (fun _ => ?_) (fun q => absurd rfl q)
    refine wp_iload 5 dL_law_1235 rfl ?_
    refine wp_if_ne 1252 dL_law_1237 rfl (fun _ => ?_) (fun q => absurd q (by decide))
    refine wp_goto 1482 dL_law_1252 rfl ?_
    refine wp_sub [0, 1, 2, 3, 4] (ls' := [(0, jR 4), (1, jR 10), (2, jR 734), (3, jR 764), (4, jI i)]) rfl ?_
    exact k h2 _ I2 (J) (by omega) (by omega)
  ·
    obtain ⟨I0, e1, g1⟩ := I.p f1.fr ⟨by omega, by omega⟩ H1
    have I1 := I0.o (prtL s.1.2.2.2).length
    show jWp 14 mL_law 1216 [(0, jR 4), (1, jR 10), (2, jR 734), (3, jR 764), (4, jI i)] [jI 0] _ Q
    refine wp_istore [1, 2, 3, 4, 5, 0] (ls' := [(0, jR 4), (1, jR 10), (2, jR 734), (3, jR 764), (4, jI i), (5, jI 0)]) dL_law_1216 (by decide) rfl ?_
    refine wp_aload_n 2 dL_law_1218 rfl ?_
    refine wp_callV (ci := 8) (y' := mX11_print) (st := []) [] rfl rfl rfl fX11_print kL_153 nX11_print dL_law_1219 (Nat.le_of_ble_eq_true rfl) I1.k734 ?_
    refine v_print (d := 12) J.sym I1.2.1 (fun y h2 f2 H2 t2 => absurd y z) (fun y h2 f2 H2 t2 => ?_)
    have ev := I1.v f2 (by decide)
    obtain ⟨I2, e2, g2⟩ := I1.m f2 (by decide) H2
    simp only [hS_sA, hT_sA] at e2 g2
    show jWp 14 mL_law 1222 [(0, jR 4), (1, jR 10), (2, jR 734), (3, jR 764), (4, jI i), (5, jI 0)] [jI _] h2 Q
    refine wp_istore [1, 2, 3, 4, 5, 6, 0] (ls' := [(0, jR 4), (1, jR 10), (2, jR 734), (3, jR 764), (4, jI i), (5, jI 0), (6, jI _)]) dL_law_1222 (by decide) rfl ?_
    refine wp_aload_n 2 dL_law_1224 rfl ?_
    refine wp_callV (ci := 8) (y' := mX11_thrown) (st := []) [] rfl rfl rfl fX11_thrown kL_94 nX11_thrown dL_law_1225 (Nat.le_of_ble_eq_true rfl) I2.k734 ?_
    refine n_thrown I2.2.1.1 ?_
    rw [t2]
    show jWp 14 mL_law 1228 [(0, jR 4), (1, jR 10), (2, jR 734), (3, jR 764), (4, jI i), (5, jI 0), (6, jI _)] [jI 0] h2 Q
    refine wp_iload 5 dL_law_1228 rfl ?_
    refine wp_icmp_eq 1235 dL_law_1230 rfl (fun _ => ?_) (fun q => absurd rfl q)
    refine wp_iload 5 dL_law_1235 rfl ?_
    refine wp_if_ne 1252 dL_law_1237 rfl (fun q => absurd rfl q) (fun _ => ?_)
    refine wp_aload_n 3 dL_law_1240 rfl ?_
    refine wp_iconst dL_law_1241 ⟨by decide, by decide⟩ ?_
    refine wp_laload dL_law_1242 I2.2.2.1 (by decide) (by rw [I2.2.2.2.1]; decide) (fun _ => ?_)
    rw [ev, hA_sA, if_pos ⟨rfl, rfl⟩]
    refine wp_iload 6 dL_law_1243 rfl ?_
    refine wp_i2l dL_law_1245 ?_
    refine wp_lcmp dL_law_1246 ?_
    rw [cmp0]
    refine wp_if_eq 1252 dL_law_1247 rfl (fun _ => ?_) (fun q => absurd rfl q)
    refine wp_goto 1482 dL_law_1252 rfl ?_
    refine wp_sub [0, 1, 2, 3, 4] (ls' := [(0, jR 4), (1, jR 10), (2, jR 734), (3, jR 764), (4, jI i)]) rfl ?_
    exact k h2 _ I2 (I_print J) (by omega) (by omega)
end LD
