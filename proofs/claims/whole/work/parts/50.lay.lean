/-! ===== where things lie: the class's object is cell 1, the reference's is cell 500 ===== -/
def zb_layb : Bool := (List.range 541).all fun p => match zb_row zb_w0 ((p : Int) + 1) with
  | none => true
  | some c =>
    let a : Int := (p : Int) + 1
    if c.1 == 4 then decide (zb_E0.2 a 1 = a + 1) && decide (zb_E0.2 a 2 = a + 2) && decide (zb_E0.2 a 3 = a + 3) && decide (zb_E0.2 a 4 = a + 4) && decide (zb_E0.2 a 5 = a + 5)
    else if c.1 == 5 then decide (zb_E0.2 a 2 = a + 1) && decide (zb_E0.2 a 3 = a + 2) && decide (zb_E0.2 a 4 = a + 3)
    else if c.1 == 6 then decide (zb_E0.2 a 1 = a + 1) && decide (zb_E0.2 a 2 = a + 2) && decide (zb_E0.2 a 3 = a + 3) && decide (zb_E0.2 a 4 = a + 4) && decide (zb_E0.2 a 5 = a + 5)
    else if c.1 == 3 then decide (zb_E0.2 a 5 = a + 1) && decide (zb_E0.2 a 6 = a + 2)
    else if c.1 == 10 then decide (zb_E0.2 a 1 = a + 1)
    else true
set_option maxRecDepth 100000 in
theorem zb_layb_ok : zb_layb = true := by decide +kernel
theorem zb_lay_at {a : Int} {kind : Nat} (h : zb_is zb_E0.1 a kind) : (match zb_row zb_w0 a with
  | none => true
  | some c =>
    if c.1 == 4 then decide (zb_E0.2 a 1 = a + 1) && decide (zb_E0.2 a 2 = a + 2) && decide (zb_E0.2 a 3 = a + 3) && decide (zb_E0.2 a 4 = a + 4) && decide (zb_E0.2 a 5 = a + 5)
    else if c.1 == 5 then decide (zb_E0.2 a 2 = a + 1) && decide (zb_E0.2 a 3 = a + 2) && decide (zb_E0.2 a 4 = a + 3)
    else if c.1 == 6 then decide (zb_E0.2 a 1 = a + 1) && decide (zb_E0.2 a 2 = a + 2) && decide (zb_E0.2 a 3 = a + 3) && decide (zb_E0.2 a 4 = a + 4) && decide (zb_E0.2 a 5 = a + 5)
    else if c.1 == 3 then decide (zb_E0.2 a 5 = a + 1) && decide (zb_E0.2 a 6 = a + 2)
    else if c.1 == 10 then decide (zb_E0.2 a 1 = a + 1)
    else true) = true := by
  obtain ⟨h1, h2, -⟩ := h
  have h2 : a ≤ ((zb_w0.length : Nat) : Int) := h2
  have hl : zb_w0.length = 541 := by decide +kernel
  rw [hl] at h2
  have h3 := List.all_eq_true.mp zb_layb_ok (a - 1).toNat (List.mem_range.mpr (by omega))
  have e : (((a - 1).toNat : Nat) : Int) + 1 = a := by omega
  simp only [e] at h3
  exact h3
theorem zb_net {a : Int} (h : zb_is zb_E0.1 a 4) : zb_E0.2 a 1 = a + 1 ∧ zb_E0.2 a 2 = a + 2 ∧ zb_E0.2 a 3 = a + 3 ∧ zb_E0.2 a 4 = a + 4 ∧ zb_E0.2 a 5 = a + 5 := by
  have h1 := zb_lay_at h
  obtain ⟨c, hr, hc⟩ := zb_is_row h
  rw [hr] at h1
  simp only [hc] at h1
  simpa [and_assoc] using h1
theorem zb_part {a : Int} (h : zb_is zb_E0.1 a 5) : zb_E0.2 a 2 = a + 1 ∧ zb_E0.2 a 3 = a + 2 ∧ zb_E0.2 a 4 = a + 3 := by
  have h1 := zb_lay_at h
  obtain ⟨c, hr, hc⟩ := zb_is_row h
  rw [hr] at h1
  simp only [hc] at h1
  simpa [and_assoc] using h1
theorem zb_shw {a : Int} (h : zb_is zb_E0.1 a 6) : zb_E0.2 a 1 = a + 1 ∧ zb_E0.2 a 2 = a + 2 ∧ zb_E0.2 a 3 = a + 3 ∧ zb_E0.2 a 4 = a + 4 ∧ zb_E0.2 a 5 = a + 5 := by
  have h1 := zb_lay_at h
  obtain ⟨c, hr, hc⟩ := zb_is_row h
  rw [hr] at h1
  simp only [hc] at h1
  simpa [and_assoc] using h1
theorem zb_nam {a : Int} (h : zb_is zb_E0.1 a 3) : zb_E0.2 a 5 = a + 1 ∧ zb_E0.2 a 6 = a + 2 := by
  have h1 := zb_lay_at h
  obtain ⟨c, hr, hc⟩ := zb_is_row h
  rw [hr] at h1
  simp only [hc] at h1
  simpa [and_assoc] using h1
theorem zb_trn {a : Int} (h : zb_is zb_E0.1 a 10) : zb_E0.2 a 1 = a + 1 := by
  have h1 := zb_lay_at h
  obtain ⟨c, hr, hc⟩ := zb_is_row h
  rw [hr] at h1
  simp only [hc] at h1
  simpa [and_assoc] using h1
def zb_rowb (r base step : Int) (kind n : Nat) : Bool := (List.range n).all fun i => decide (zb_E0.2 r i = base + step * i) && zb_isb zb_w0 (base + step * i) kind
theorem zb_rowb_ok {r base step : Int} {kind n : Nat} (h : zb_rowb r base step kind n = true) {i : Int} (h0 : 0 ≤ i) (hi : i < n) : zb_E0.2 r i = base + step * i ∧ zb_is zb_E0.1 (base + step * i) kind := by
  have h1 := List.all_eq_true.mp h i.toNat (List.mem_range.mpr (by omega))
  have e : ((i.toNat : Nat) : Int) = i := by omega
  rw [e] at h1
  obtain ⟨h2, h3⟩ := zb_andT h1
  exact ⟨of_decide_eq_true h2, zb_isb_ok h3⟩
set_option maxRecDepth 100000 in
theorem zb_nets {i : Int} (h0 : 0 ≤ i) (hi : i < 8) : zb_E0.2 2 i = 428 + 6 * i ∧ zb_is zb_E0.1 (428 + 6 * i) 4 := zb_rowb_ok (n := 8) (by decide +kernel) h0 hi
set_option maxRecDepth 100000 in
theorem zb_hist {i : Int} (h0 : 0 ≤ i) (hi : i < 20) : zb_E0.2 4 i = 6 + 6 * i ∧ zb_is zb_E0.1 (6 + 6 * i) 4 := zb_rowb_ok (n := 20) (by decide +kernel) h0 hi
theorem zb_v_1_0 : zb_E0.2 1 0 = 2 := by decide +kernel
theorem zb_v_1_1 : zb_E0.2 1 1 = 3 := by decide +kernel
theorem zb_v_1_2 : zb_E0.2 1 2 = 126 := by decide +kernel
theorem zb_v_1_3 : zb_E0.2 1 3 = 132 := by decide +kernel
theorem zb_v_1_4 : zb_E0.2 1 4 = 136 := by decide +kernel
theorem zb_v_1_5 : zb_E0.2 1 5 = 192 := by decide +kernel
theorem zb_v_1_6 : zb_E0.2 1 6 = 356 := by decide +kernel
theorem zb_v_1_8 : zb_E0.2 1 8 = 384 := by decide +kernel
theorem zb_v_1_9 : zb_E0.2 1 9 = 390 := by decide +kernel
theorem zb_v_1_10 : zb_E0.2 1 10 = 394 := by decide +kernel
theorem zb_v_1_11 : zb_E0.2 1 11 = 397 := by decide +kernel
theorem zb_v_1_12 : zb_E0.2 1 12 = 399 := by decide +kernel
theorem zb_v_1_14 : zb_E0.2 1 14 = 400 := by decide +kernel
theorem zb_v_3_0 : zb_E0.2 3 0 = 4 := by decide +kernel
theorem zb_v_3_1 : zb_E0.2 3 1 = 5 := by decide +kernel
theorem zb_v_132_0 : zb_E0.2 132 0 = 133 := by decide +kernel
theorem zb_v_132_2 : zb_E0.2 132 2 = 134 := by decide +kernel
theorem zb_v_132_3 : zb_E0.2 132 3 = 135 := by decide +kernel
theorem zb_v_136_0 : zb_E0.2 136 0 = 132 := by decide +kernel
theorem zb_v_136_1 : zb_E0.2 136 1 = 137 := by decide +kernel
theorem zb_v_136_2 : zb_E0.2 136 2 = 190 := by decide +kernel
theorem zb_v_136_3 : zb_E0.2 136 3 = 191 := by decide +kernel
theorem zb_v_192_0 : zb_E0.2 192 0 = 132 := by decide +kernel
theorem zb_v_192_1 : zb_E0.2 192 1 = 193 := by decide +kernel
theorem zb_v_192_2 : zb_E0.2 192 2 = 246 := by decide +kernel
theorem zb_v_192_3 : zb_E0.2 192 3 = 299 := by decide +kernel
theorem zb_v_192_4 : zb_E0.2 192 4 = 352 := by decide +kernel
theorem zb_v_192_5 : zb_E0.2 192 5 = 353 := by decide +kernel
theorem zb_v_192_7 : zb_E0.2 192 7 = 354 := by decide +kernel
theorem zb_v_192_8 : zb_E0.2 192 8 = 355 := by decide +kernel
theorem zb_v_356_0 : zb_E0.2 356 0 = 132 := by decide +kernel
theorem zb_v_356_1 : zb_E0.2 356 1 = 136 := by decide +kernel
theorem zb_v_356_2 : zb_E0.2 356 2 = 357 := by decide +kernel
theorem zb_v_356_3 : zb_E0.2 356 3 = 363 := by decide +kernel
theorem zb_v_356_4 : zb_E0.2 356 4 = 369 := by decide +kernel
theorem zb_v_356_5 : zb_E0.2 356 5 = 373 := by decide +kernel
theorem zb_v_356_6 : zb_E0.2 356 6 = 377 := by decide +kernel
theorem zb_v_356_7 : zb_E0.2 356 7 = 380 := by decide +kernel
theorem zb_v_356_8 : zb_E0.2 356 8 = 383 := by decide +kernel
theorem zb_v_400_0 : zb_E0.2 400 0 = 401 := by decide +kernel
theorem zb_v_400_2 : zb_E0.2 400 2 = 402 := by decide +kernel
theorem zb_v_400_3 : zb_E0.2 400 3 = 403 := by decide +kernel
theorem zb_v_500_0 : zb_E0.2 500 0 = 501 := by decide +kernel
theorem zb_v_500_1 : zb_E0.2 500 1 = 502 := by decide +kernel
theorem zb_v_500_2 : zb_E0.2 500 2 = 503 := by decide +kernel
theorem zb_v_500_3 : zb_E0.2 500 3 = 504 := by decide +kernel
theorem zb_v_500_4 : zb_E0.2 500 4 = 505 := by decide +kernel
theorem zb_v_500_5 : zb_E0.2 500 5 = 506 := by decide +kernel
theorem zb_v_500_6 : zb_E0.2 500 6 = 507 := by decide +kernel
theorem zb_v_500_7 : zb_E0.2 500 7 = 508 := by decide +kernel
theorem zb_v_500_8 : zb_E0.2 500 8 = 509 := by decide +kernel
theorem zb_v_500_9 : zb_E0.2 500 9 = 510 := by decide +kernel
theorem zb_v_500_10 : zb_E0.2 500 10 = 511 := by decide +kernel
theorem zb_v_500_11 : zb_E0.2 500 11 = 512 := by decide +kernel
theorem zb_v_500_12 : zb_E0.2 500 12 = 513 := by decide +kernel
theorem zb_v_500_14 : zb_E0.2 500 14 = 514 := by decide +kernel
theorem zb_v_500_16 : zb_E0.2 500 16 = 515 := by decide +kernel
theorem zb_v_500_17 : zb_E0.2 500 17 = 516 := by decide +kernel
theorem zb_v_500_18 : zb_E0.2 500 18 = 517 := by decide +kernel
theorem zb_v_500_19 : zb_E0.2 500 19 = 518 := by decide +kernel
theorem zb_v_500_20 : zb_E0.2 500 20 = 519 := by decide +kernel
theorem zb_v_500_21 : zb_E0.2 500 21 = 520 := by decide +kernel
theorem zb_v_500_22 : zb_E0.2 500 22 = 521 := by decide +kernel
theorem zb_v_500_25 : zb_E0.2 500 25 = 522 := by decide +kernel
theorem zb_v_500_26 : zb_E0.2 500 26 = 523 := by decide +kernel
theorem zb_v_500_27 : zb_E0.2 500 27 = 524 := by decide +kernel
theorem zb_v_500_30 : zb_E0.2 500 30 = 525 := by decide +kernel
theorem zb_v_500_31 : zb_E0.2 500 31 = 526 := by decide +kernel
theorem zb_v_500_32 : zb_E0.2 500 32 = 527 := by decide +kernel
theorem zb_v_500_33 : zb_E0.2 500 33 = 528 := by decide +kernel
theorem zb_v_500_35 : zb_E0.2 500 35 = 529 := by decide +kernel
theorem zb_v_500_36 : zb_E0.2 500 36 = 530 := by decide +kernel
theorem zb_v_500_38 : zb_E0.2 500 38 = 531 := by decide +kernel
theorem zb_v_500_39 : zb_E0.2 500 39 = 532 := by decide +kernel
theorem zb_v_500_41 : zb_E0.2 500 41 = 533 := by decide +kernel
theorem zb_v_500_43 : zb_E0.2 500 43 = 534 := by decide +kernel
theorem zb_v_500_44 : zb_E0.2 500 44 = 535 := by decide +kernel
theorem zb_v_500_45 : zb_E0.2 500 45 = 536 := by decide +kernel
theorem zb_v_500_46 : zb_E0.2 500 46 = 537 := by decide +kernel
theorem zb_v_500_47 : zb_E0.2 500 47 = 538 := by decide +kernel
theorem zb_v_500_48 : zb_E0.2 500 48 = 539 := by decide +kernel
theorem zb_v_500_50 : zb_E0.2 500 50 = 540 := by decide +kernel
theorem zb_v_500_54 : zb_E0.2 500 54 = 541 := by decide +kernel
set_option maxRecDepth 100000 in
theorem zb_levels {i : Int} (h0 : 0 ≤ i) (hi : i < 13) : zb_E0.2 137 i = 138 + 4 * i ∧ zb_is zb_E0.1 (138 + 4 * i) 5 := zb_rowb_ok (n := 13) (by decide +kernel) h0 hi
set_option maxRecDepth 100000 in
theorem zb_ahead {i : Int} (h0 : 0 ≤ i) (hi : i < 13) : zb_E0.2 193 i = 194 + 4 * i ∧ zb_is zb_E0.1 (194 + 4 * i) 5 := zb_rowb_ok (n := 13) (by decide +kernel) h0 hi
set_option maxRecDepth 100000 in
theorem zb_here {i : Int} (h0 : 0 ≤ i) (hi : i < 13) : zb_E0.2 246 i = 247 + 4 * i ∧ zb_is zb_E0.1 (247 + 4 * i) 5 := zb_rowb_ok (n := 13) (by decide +kernel) h0 hi
set_option maxRecDepth 100000 in
theorem zb_there {i : Int} (h0 : 0 ≤ i) (hi : i < 13) : zb_E0.2 299 i = 300 + 4 * i ∧ zb_is zb_E0.1 (300 + 4 * i) 5 := zb_rowb_ok (n := 13) (by decide +kernel) h0 hi
set_option maxRecDepth 100000 in
theorem zb_makersFound {i : Int} (h0 : 0 ≤ i) (hi : i < 12) : zb_E0.2 399 i = 476 + 2 * i ∧ zb_is zb_E0.1 (476 + 2 * i) 10 := zb_rowb_ok (n := 12) (by decide +kernel) h0 hi
theorem zb_i_1 : zb_is zb_E0.1 1 11 := zb_isb_ok (by decide +kernel)
theorem zb_i_3 : zb_is zb_E0.1 3 1 := zb_isb_ok (by decide +kernel)
theorem zb_i_126 : zb_is zb_E0.1 126 6 := zb_isb_ok (by decide +kernel)
theorem zb_i_132 : zb_is zb_E0.1 132 7 := zb_isb_ok (by decide +kernel)
theorem zb_i_136 : zb_is zb_E0.1 136 8 := zb_isb_ok (by decide +kernel)
theorem zb_i_192 : zb_is zb_E0.1 192 9 := zb_isb_ok (by decide +kernel)
theorem zb_i_356 : zb_is zb_E0.1 356 0 := zb_isb_ok (by decide +kernel)
theorem zb_i_357 : zb_is zb_E0.1 357 6 := zb_isb_ok (by decide +kernel)
theorem zb_i_363 : zb_is zb_E0.1 363 6 := zb_isb_ok (by decide +kernel)
theorem zb_i_369 : zb_is zb_E0.1 369 5 := zb_isb_ok (by decide +kernel)
theorem zb_i_373 : zb_is zb_E0.1 373 5 := zb_isb_ok (by decide +kernel)
theorem zb_i_377 : zb_is zb_E0.1 377 3 := zb_isb_ok (by decide +kernel)
theorem zb_i_380 : zb_is zb_E0.1 380 3 := zb_isb_ok (by decide +kernel)
theorem zb_i_384 : zb_is zb_E0.1 384 6 := zb_isb_ok (by decide +kernel)
theorem zb_i_390 : zb_is zb_E0.1 390 5 := zb_isb_ok (by decide +kernel)
theorem zb_i_394 : zb_is zb_E0.1 394 3 := zb_isb_ok (by decide +kernel)
theorem zb_i_397 : zb_is zb_E0.1 397 10 := zb_isb_ok (by decide +kernel)
theorem zb_i_400 : zb_is zb_E0.1 400 2 := zb_isb_ok (by decide +kernel)
theorem zb_i_500 : zb_is zb_E0.1 500 12 := zb_isb_ok (by decide +kernel)
