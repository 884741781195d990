/-! ===== each pair of calls answers the same and keeps the world ===== -/
def zb_Inv (m : zb_M) : Prop := ∃ w, zb_CW m w ∧ zb_RWd m w ∧ zb_OW w
theorem zb_i32 (x : Int32) : zb_inI x.toInt := ⟨Int32.le_toInt x, by have := Int32.toInt_lt x; omega⟩
theorem zb_op_thing {m : zb_M} {a0 a1 a2 a3 : Int} (hI : zb_Inv m) : zb_T K_X11_thing 199 [(2, 1), (0, a0), (0, a1), (0, a2), (0, a3)] zb_E0 m (fun r m1 => zb_T K_X12_thing 199 [(2, 500), (0, a0), (0, a1), (0, a2), (0, a3)] zb_E0 m1 (fun r' m2 => r = r' ∧ zb_Inv m2)) := by
  obtain ⟨w, hc, hr, ho⟩ := hI
  have ho' : zb_OW ((v_thing w.1 a0 a1 a2 a3).2, w.2.1, w.2.2.1, w.2.2.2.1, w.2.2.2.2.1, w.2.2.2.2.2.1, w.2.2.2.2.2.2) := ⟨v_thing_ok ho.1, ho.2.1, ho.2.2.1, ho.2.2.2.1, ho.2.2.2.2.1, ho.2.2.2.2.2⟩
  refine (s_X11_thing (d := 195) hc.1 ho.1).mono (fun r m1 h1 => ?_)
  obtain ⟨e1, p1, f1⟩ := h1
  have hr1 := zb_CR_G hr ho f1
  refine (s_X12_thing (d := 195) hr1.1 ho.1).mono (fun r' m2 h2 => ?_)
  obtain ⟨e2, p2, f2⟩ := h2
  exact ⟨e1.trans e2.symm, ((v_thing w.1 a0 a1 a2 a3).2, w.2.1, w.2.2.1, w.2.2.2.1, w.2.2.2.2.1, w.2.2.2.2.2.1, w.2.2.2.2.2.2), zb_RC_G (zb_C_G hc ho p1 f1) ho' f2, zb_R_G hr1 ho p2 f2, ho'⟩
theorem zb_op_colour {m : zb_M} {a0 a1 a2 : Int} (hI : zb_Inv m) : zb_T K_X11_colour 199 [(2, 1), (0, a0), (0, a1), (0, a2)] zb_E0 m (fun r m1 => zb_T K_X12_colour 199 [(2, 500), (0, a0), (0, a1), (0, a2)] zb_E0 m1 (fun r' m2 => r = r' ∧ zb_Inv m2)) := by
  obtain ⟨w, hc, hr, ho⟩ := hI
  have ho' : zb_OW ((v_colour w.1 a0 a1 a2).2, w.2.1, w.2.2.1, w.2.2.2.1, w.2.2.2.2.1, w.2.2.2.2.2.1, w.2.2.2.2.2.2) := ⟨v_colour_ok ho.1, ho.2.1, ho.2.2.1, ho.2.2.2.1, ho.2.2.2.2.1, ho.2.2.2.2.2⟩
  refine (s_X11_colour (d := 195) hc.1 ho.1).mono (fun r m1 h1 => ?_)
  obtain ⟨e1, p1, f1⟩ := h1
  have hr1 := zb_CR_G hr ho f1
  refine (s_X12_colour (d := 195) hr1.1 ho.1).mono (fun r' m2 h2 => ?_)
  obtain ⟨e2, p2, f2⟩ := h2
  exact ⟨e1.trans e2.symm, ((v_colour w.1 a0 a1 a2).2, w.2.1, w.2.2.1, w.2.2.2.1, w.2.2.2.2.1, w.2.2.2.2.2.1, w.2.2.2.2.2.2), zb_RC_G (zb_C_G hc ho p1 f1) ho' f2, zb_R_G hr1 ho p2 f2, ho'⟩
theorem zb_op_word {m : zb_M} {a0 a1 a2 : Int} (hI : zb_Inv m) : zb_T K_X11_word 199 [(2, 1), (0, a0), (0, a1), (0, a2)] zb_E0 m (fun r m1 => zb_T K_X12_word 199 [(2, 500), (0, a0), (0, a1), (0, a2)] zb_E0 m1 (fun r' m2 => r = r' ∧ zb_Inv m2)) := by
  obtain ⟨w, hc, hr, ho⟩ := hI
  have ho' : zb_OW ((v_word w.1 a0 a1 a2).2, w.2.1, w.2.2.1, w.2.2.2.1, w.2.2.2.2.1, w.2.2.2.2.2.1, w.2.2.2.2.2.2) := ⟨v_word_ok ho.1, ho.2.1, ho.2.2.1, ho.2.2.2.1, ho.2.2.2.2.1, ho.2.2.2.2.2⟩
  refine (s_X11_word (d := 195) hc.1 ho.1).mono (fun r m1 h1 => ?_)
  obtain ⟨e1, p1, f1⟩ := h1
  have hr1 := zb_CR_G hr ho f1
  refine (s_X12_word (d := 195) hr1.1 ho.1).mono (fun r' m2 h2 => ?_)
  obtain ⟨e2, p2, f2⟩ := h2
  exact ⟨e1.trans e2.symm, ((v_word w.1 a0 a1 a2).2, w.2.1, w.2.2.1, w.2.2.2.1, w.2.2.2.2.1, w.2.2.2.2.2.1, w.2.2.2.2.2.2), zb_RC_G (zb_C_G hc ho p1 f1) ho' f2, zb_R_G hr1 ho p2 f2, ho'⟩
theorem zb_op_row {m : zb_M} {a0 a1 a2 : Int} (hI : zb_Inv m) : zb_T K_X11_row 199 [(2, 1), (0, a0), (0, a1), (0, a2)] zb_E0 m (fun r m1 => zb_T K_X12_row 199 [(2, 500), (0, a0), (0, a1), (0, a2)] zb_E0 m1 (fun r' m2 => r = r' ∧ zb_Inv m2)) := by
  obtain ⟨w, hc, hr, ho⟩ := hI
  have ho' : zb_OW ((v_row w.1 a0 a1 a2).2, w.2.1, w.2.2.1, w.2.2.2.1, w.2.2.2.2.1, w.2.2.2.2.2.1, w.2.2.2.2.2.2) := ⟨v_row_ok ho.1, ho.2.1, ho.2.2.1, ho.2.2.2.1, ho.2.2.2.2.1, ho.2.2.2.2.2⟩
  refine (s_X11_row (d := 195) hc.1 ho.1).mono (fun r m1 h1 => ?_)
  obtain ⟨e1, p1, f1⟩ := h1
  have hr1 := zb_CR_G hr ho f1
  refine (s_X12_row (d := 195) hr1.1 ho.1).mono (fun r' m2 h2 => ?_)
  obtain ⟨e2, p2, f2⟩ := h2
  exact ⟨e1.trans e2.symm, ((v_row w.1 a0 a1 a2).2, w.2.1, w.2.2.1, w.2.2.2.1, w.2.2.2.2.1, w.2.2.2.2.2.1, w.2.2.2.2.2.2), zb_RC_G (zb_C_G hc ho p1 f1) ho' f2, zb_R_G hr1 ho p2 f2, ho'⟩
theorem zb_op_unrow {m : zb_M} {a0 a1 : Int} (hI : zb_Inv m) : zb_T K_X11_unrow 199 [(2, 1), (0, a0), (0, a1)] zb_E0 m (fun r m1 => zb_T K_X12_unrow 199 [(2, 500), (0, a0), (0, a1)] zb_E0 m1 (fun r' m2 => r = r' ∧ zb_Inv m2)) := by
  obtain ⟨w, hc, hr, ho⟩ := hI
  have ho' : zb_OW ((v_unrow w.1 a0 a1).2, w.2.1, w.2.2.1, w.2.2.2.1, w.2.2.2.2.1, w.2.2.2.2.2.1, w.2.2.2.2.2.2) := ⟨v_unrow_ok ho.1, ho.2.1, ho.2.2.1, ho.2.2.2.1, ho.2.2.2.2.1, ho.2.2.2.2.2⟩
  refine (s_X11_unrow (d := 195) hc.1 ho.1).mono (fun r m1 h1 => ?_)
  obtain ⟨e1, p1, f1⟩ := h1
  have hr1 := zb_CR_G hr ho f1
  refine (s_X12_unrow (d := 195) hr1.1 ho.1).mono (fun r' m2 h2 => ?_)
  obtain ⟨e2, p2, f2⟩ := h2
  exact ⟨e1.trans e2.symm, ((v_unrow w.1 a0 a1).2, w.2.1, w.2.2.1, w.2.2.2.1, w.2.2.2.2.1, w.2.2.2.2.2.1, w.2.2.2.2.2.2), zb_RC_G (zb_C_G hc ho p1 f1) ho' f2, zb_R_G hr1 ho p2 f2, ho'⟩
theorem zb_op_place {m : zb_M} {a0 a1 a2 a3 : Int} (hI : zb_Inv m) : zb_T K_X11_place 199 [(2, 1), (0, a0), (0, a1), (0, a2), (0, a3)] zb_E0 m (fun r m1 => zb_T K_X12_place 199 [(2, 500), (0, a0), (0, a1), (0, a2), (0, a3)] zb_E0 m1 (fun r' m2 => r = r' ∧ zb_Inv m2)) := by
  obtain ⟨w, hc, hr, ho⟩ := hI
  have ho' : zb_OW ((v_place w.1 a0 a1 a2 a3).2, w.2.1, w.2.2.1, w.2.2.2.1, w.2.2.2.2.1, w.2.2.2.2.2.1, w.2.2.2.2.2.2) := ⟨v_place_ok ho.1, ho.2.1, ho.2.2.1, ho.2.2.2.1, ho.2.2.2.2.1, ho.2.2.2.2.2⟩
  refine (s_X11_place (d := 195) hc.1 ho.1).mono (fun r m1 h1 => ?_)
  obtain ⟨e1, p1, f1⟩ := h1
  have hr1 := zb_CR_G hr ho f1
  refine (s_X12_place (d := 195) hr1.1 ho.1).mono (fun r' m2 h2 => ?_)
  obtain ⟨e2, p2, f2⟩ := h2
  exact ⟨e1.trans e2.symm, ((v_place w.1 a0 a1 a2 a3).2, w.2.1, w.2.2.1, w.2.2.2.1, w.2.2.2.2.1, w.2.2.2.2.2.1, w.2.2.2.2.2.2), zb_RC_G (zb_C_G hc ho p1 f1) ho' f2, zb_R_G hr1 ho p2 f2, ho'⟩
theorem zb_op_copy {m : zb_M} {a0 a1 a2 a3 a4 a5 a6 : Int} (i1 : zb_inI a2) (i2 : zb_inI a5) (i3 : zb_inI a6) (hI : zb_Inv m) : zb_T K_X11_copy 199 [(2, 1), (0, a0), (0, a1), (0, a2), (0, a3), (0, a4), (0, a5), (0, a6)] zb_E0 m (fun r m1 => zb_T K_X12_copy 199 [(2, 500), (0, a0), (0, a1), (0, a2), (0, a3), (0, a4), (0, a5), (0, a6)] zb_E0 m1 (fun r' m2 => r = r' ∧ zb_Inv m2)) := by
  obtain ⟨w, hc, hr, ho⟩ := hI
  have ho' : zb_OW ((v_copy w.1 a0 a1 a2 a3 a4 a5 a6).2, w.2.1, w.2.2.1, w.2.2.2.1, w.2.2.2.2.1, w.2.2.2.2.2.1, w.2.2.2.2.2.2) := ⟨v_copy_ok ho.1, ho.2.1, ho.2.2.1, ho.2.2.2.1, ho.2.2.2.2.1, ho.2.2.2.2.2⟩
  refine (s_X11_copy (d := 195) hc.1 ho.1 i1 i2 i3).mono (fun r m1 h1 => ?_)
  obtain ⟨e1, p1, f1⟩ := h1
  have hr1 := zb_CR_G hr ho f1
  refine (s_X12_copy (d := 195) hr1.1 ho.1 i1 i2 i3).mono (fun r' m2 h2 => ?_)
  obtain ⟨e2, p2, f2⟩ := h2
  exact ⟨e1.trans e2.symm, ((v_copy w.1 a0 a1 a2 a3 a4 a5 a6).2, w.2.1, w.2.2.1, w.2.2.2.1, w.2.2.2.2.1, w.2.2.2.2.2.1, w.2.2.2.2.2.2), zb_RC_G (zb_C_G hc ho p1 f1) ho' f2, zb_R_G hr1 ho p2 f2, ho'⟩
theorem zb_op_swap {m : zb_M} {a0 a1 a2 : Int} (hI : zb_Inv m) : zb_T K_X11_swap 199 [(2, 1), (0, a0), (0, a1), (0, a2)] zb_E0 m (fun r m1 => zb_T K_X12_swap 199 [(2, 500), (0, a0), (0, a1), (0, a2)] zb_E0 m1 (fun r' m2 => r = r' ∧ zb_Inv m2)) := by
  obtain ⟨w, hc, hr, ho⟩ := hI
  have ho' : zb_OW ((v_swap w.1 a0 a1 a2).2, w.2.1, w.2.2.1, w.2.2.2.1, w.2.2.2.2.1, w.2.2.2.2.2.1, w.2.2.2.2.2.2) := ⟨v_swap_ok ho.1, ho.2.1, ho.2.2.1, ho.2.2.2.1, ho.2.2.2.2.1, ho.2.2.2.2.2⟩
  refine (s_X11_swap (d := 195) hc.1 ho.1).mono (fun r m1 h1 => ?_)
  obtain ⟨e1, p1, f1⟩ := h1
  have hr1 := zb_CR_G hr ho f1
  refine (s_X12_swap (d := 195) hr1.1 ho.1).mono (fun r' m2 h2 => ?_)
  obtain ⟨e2, p2, f2⟩ := h2
  exact ⟨e1.trans e2.symm, ((v_swap w.1 a0 a1 a2).2, w.2.1, w.2.2.1, w.2.2.2.1, w.2.2.2.2.1, w.2.2.2.2.2.1, w.2.2.2.2.2.2), zb_RC_G (zb_C_G hc ho p1 f1) ho' f2, zb_R_G hr1 ho p2 f2, ho'⟩
theorem zb_op_twin {m : zb_M} {a0 a1 : Int} (hI : zb_Inv m) : zb_T K_X11_twin 199 [(2, 1), (0, a0), (0, a1)] zb_E0 m (fun r m1 => zb_T K_X12_twin 199 [(2, 500), (0, a0), (0, a1)] zb_E0 m1 (fun r' m2 => r = r' ∧ zb_Inv m2)) := by
  obtain ⟨w, hc, hr, ho⟩ := hI
  have ho' : zb_OW ((v_twin w.1 a0 a1).2, w.2.1, w.2.2.1, w.2.2.2.1, w.2.2.2.2.1, w.2.2.2.2.2.1, w.2.2.2.2.2.2) := ⟨v_twin_ok ho.1, ho.2.1, ho.2.2.1, ho.2.2.2.1, ho.2.2.2.2.1, ho.2.2.2.2.2⟩
  refine (s_X11_twin (d := 195) hc.1 ho.1).mono (fun r m1 h1 => ?_)
  obtain ⟨e1, p1, f1⟩ := h1
  have hr1 := zb_CR_G hr ho f1
  refine (s_X12_twin (d := 195) hr1.1 ho.1).mono (fun r' m2 h2 => ?_)
  obtain ⟨e2, p2, f2⟩ := h2
  exact ⟨e1.trans e2.symm, ((v_twin w.1 a0 a1).2, w.2.1, w.2.2.1, w.2.2.2.1, w.2.2.2.2.1, w.2.2.2.2.2.1, w.2.2.2.2.2.2), zb_RC_G (zb_C_G hc ho p1 f1) ho' f2, zb_R_G hr1 ho p2 f2, ho'⟩
theorem zb_op_drop {m : zb_M} {a0 : Int} (hI : zb_Inv m) : zb_T K_X11_drop 199 [(2, 1), (0, a0)] zb_E0 m (fun r m1 => zb_T K_X12_drop 199 [(2, 500), (0, a0)] zb_E0 m1 (fun r' m2 => r = r' ∧ zb_Inv m2)) := by
  obtain ⟨w, hc, hr, ho⟩ := hI
  have ho' : zb_OW ((v_drop w.1 a0).2, w.2.1, w.2.2.1, w.2.2.2.1, w.2.2.2.2.1, w.2.2.2.2.2.1, w.2.2.2.2.2.2) := ⟨v_drop_ok ho.1, ho.2.1, ho.2.2.1, ho.2.2.2.1, ho.2.2.2.2.1, ho.2.2.2.2.2⟩
  refine (s_X11_drop (d := 195) hc.1 ho.1).mono (fun r m1 h1 => ?_)
  obtain ⟨e1, p1, f1⟩ := h1
  have hr1 := zb_CR_G hr ho f1
  refine (s_X12_drop (d := 195) hr1.1 ho.1).mono (fun r' m2 h2 => ?_)
  obtain ⟨e2, p2, f2⟩ := h2
  exact ⟨e1.trans e2.symm, ((v_drop w.1 a0).2, w.2.1, w.2.2.1, w.2.2.2.1, w.2.2.2.2.1, w.2.2.2.2.2.1, w.2.2.2.2.2.2), zb_RC_G (zb_C_G hc ho p1 f1) ho' f2, zb_R_G hr1 ho p2 f2, ho'⟩
theorem zb_op_undo {m : zb_M} (hI : zb_Inv m) : zb_T K_X11_undo 199 [(2, 1)] zb_E0 m (fun r m1 => zb_T K_X12_undo 199 [(2, 500)] zb_E0 m1 (fun r' m2 => r = r' ∧ zb_Inv m2)) := by
  obtain ⟨w, hc, hr, ho⟩ := hI
  have ho' : zb_OW ((v_undo w.1).2, w.2.1, w.2.2.1, w.2.2.2.1, w.2.2.2.2.1, w.2.2.2.2.2.1, w.2.2.2.2.2.2) := ⟨v_undo_ok ho.1, ho.2.1, ho.2.2.1, ho.2.2.2.1, ho.2.2.2.2.1, ho.2.2.2.2.2⟩
  refine (s_X11_undo (d := 195) hc.1 ho.1).mono (fun r m1 h1 => ?_)
  obtain ⟨e1, p1, f1⟩ := h1
  have hr1 := zb_CR_G hr ho f1
  refine (s_X12_undo (d := 195) hr1.1 ho.1).mono (fun r' m2 h2 => ?_)
  obtain ⟨e2, p2, f2⟩ := h2
  exact ⟨e1.trans e2.symm, ((v_undo w.1).2, w.2.1, w.2.2.1, w.2.2.2.1, w.2.2.2.2.1, w.2.2.2.2.2.1, w.2.2.2.2.2.2), zb_RC_G (zb_C_G hc ho p1 f1) ho' f2, zb_R_G hr1 ho p2 f2, ho'⟩
theorem zb_op_line {m : zb_M} {a0 a1 a2 : Int} (hI : zb_Inv m) : zb_Tp K_X11_line 199 [(2, 1), (0, a0), (0, a1), (0, a2)] zb_E0 m (fun r => zb_Tp K_X12_line 199 [(2, 500), (0, a0), (0, a1), (0, a2)] zb_E0 m (fun r' => r = r')) := by
  obtain ⟨w, hc, hr, ho⟩ := hI
  refine (s_X11_line (d := 195) hc.1 ho.1).mono (fun r e1 => ?_)
  refine (s_X12_line (d := 195) hr.1 ho.1).mono (fun r' e2 => ?_)
  exact e1.trans e2.symm
theorem zb_op_told {m : zb_M} {a0 a1 a2 : Int} (hI : zb_Inv m) : zb_Tp K_X11_told 199 [(2, 1), (0, a0), (0, a1), (0, a2)] zb_E0 m (fun r => zb_Tp K_X12_told 199 [(2, 500), (0, a0), (0, a1), (0, a2)] zb_E0 m (fun r' => r = r')) := by
  obtain ⟨w, hc, hr, ho⟩ := hI
  refine (s_X11_told (d := 194) hc.1 ho.1).mono (fun r e1 => ?_)
  refine (s_X12_told (d := 195) hr.1 ho.1).mono (fun r' e2 => ?_)
  exact e1.trans e2.symm
theorem zb_op_count {m : zb_M} {a0 a1 : Int} (hI : zb_Inv m) : zb_Tp K_X11_count 199 [(2, 1), (0, a0), (0, a1)] zb_E0 m (fun r => zb_Tp K_X12_count 199 [(2, 500), (0, a0), (0, a1)] zb_E0 m (fun r' => r = r')) := by
  obtain ⟨w, hc, hr, ho⟩ := hI
  refine (s_X11_count (d := 194) hc.1 ho.1).mono (fun r e1 => ?_)
  refine (s_X12_count (d := 195) hr.1 ho.1).mono (fun r' e2 => ?_)
  exact e1.trans e2.symm
theorem zb_op_split {m : zb_M} {a0 : Int} (hI : zb_Inv m) : zb_T K_X11_split 199 [(2, 1), (0, a0)] zb_E0 m (fun r m1 => zb_T K_X12_split 199 [(2, 500), (0, a0)] zb_E0 m1 (fun r' m2 => r = r' ∧ zb_Inv m2)) := by
  obtain ⟨w, hc, hr, ho⟩ := hI
  have ho' : zb_OW (w.1, (v_split w.1 w.2.1 a0).2, w.2.2.1, w.2.2.2.1, w.2.2.2.2.1, w.2.2.2.2.2.1, w.2.2.2.2.2.2) := ⟨ho.1, v_split_ok ho.1 ho.2.1, ho.2.2.1, ho.2.2.2.1, ho.2.2.2.2.1, ho.2.2.2.2.2⟩
  refine (s_X11_split (d := 193) hc.1 ho.1 hc.2.1).mono (fun r m1 h1 => ?_)
  obtain ⟨e1, p1, f1⟩ := h1
  have hr1 := zb_CR_H hr ho f1
  refine (s_X12_split (d := 193) hr1.1 ho.1 hr1.2.1).mono (fun r' m2 h2 => ?_)
  obtain ⟨e2, p2, f2⟩ := h2
  exact ⟨e1.trans e2.symm, (w.1, (v_split w.1 w.2.1 a0).2, w.2.2.1, w.2.2.2.1, w.2.2.2.2.1, w.2.2.2.2.2.1, w.2.2.2.2.2.2), zb_RC_I (zb_C_H hc ho p1 f1) ho' f2, zb_R_I hr1 ho p2 f2, ho'⟩
theorem zb_op_mark {m : zb_M} {a0 : Int} (hI : zb_Inv m) : zb_T K_X11_mark 199 [(2, 1), (0, a0)] zb_E0 m (fun r m1 => zb_T K_X12_mark 199 [(2, 500), (0, a0)] zb_E0 m1 (fun r' m2 => r = r' ∧ zb_Inv m2)) := by
  obtain ⟨w, hc, hr, ho⟩ := hI
  have ho' : zb_OW (w.1, (v_mark w.2.1 a0).2, w.2.2.1, w.2.2.2.1, w.2.2.2.2.1, w.2.2.2.2.2.1, w.2.2.2.2.2.2) := ⟨ho.1, v_mark_ok ho.2.1, ho.2.2.1, ho.2.2.2.1, ho.2.2.2.2.1, ho.2.2.2.2.2⟩
  refine (s_X11_mark (d := 193) hc.2.1 ho.2.1).mono (fun r m1 h1 => ?_)
  obtain ⟨e1, p1, f1⟩ := h1
  have hr1 := zb_CR_H hr ho f1
  refine (s_X12_mark (d := 193) hr1.2.1 ho.2.1).mono (fun r' m2 h2 => ?_)
  obtain ⟨e2, p2, f2⟩ := h2
  exact ⟨e1.trans e2.symm, (w.1, (v_mark w.2.1 a0).2, w.2.2.1, w.2.2.2.1, w.2.2.2.2.1, w.2.2.2.2.2.1, w.2.2.2.2.2.2), zb_RC_I (zb_C_H hc ho p1 f1) ho' f2, zb_R_I hr1 ho p2 f2, ho'⟩
theorem zb_op_heapOf {m : zb_M} {a0 : Int} (hI : zb_Inv m) : zb_Tp K_X11_heapOf 199 [(2, 1), (0, a0)] zb_E0 m (fun r => zb_Tp K_X12_heapOf 199 [(2, 500), (0, a0)] zb_E0 m (fun r' => r = r')) := by
  obtain ⟨w, hc, hr, ho⟩ := hI
  refine (s_X11_heapOf (d := 196) hc.2.1 ho.2.1).mono (fun r e1 => ?_)
  refine (s_X12_heapOf (d := 196) hr.2.1 ho.2.1).mono (fun r' e2 => ?_)
  exact e1.trans e2.symm
theorem zb_op_name {m : zb_M} {a0 : Int} (hI : zb_Inv m) : zb_T K_X11_name 199 [(2, 1), (0, a0)] zb_E0 m (fun r m1 => zb_T K_X12_name 199 [(2, 500), (0, a0)] zb_E0 m1 (fun r' m2 => r = r' ∧ zb_Inv m2)) := by
  obtain ⟨w, hc, hr, ho⟩ := hI
  have ho' : zb_OW (w.1, w.2.1, (v_name w.1 w.2.2.1 a0).2, w.2.2.2.1, w.2.2.2.2.1, w.2.2.2.2.2.1, w.2.2.2.2.2.2) := ⟨ho.1, ho.2.1, v_name_ok ho.1 ho.2.2.1, ho.2.2.2.1, ho.2.2.2.2.1, ho.2.2.2.2.2⟩
  refine (s_X11_name (d := 178) hc.1 ho.1 hc.2.2.1).mono (fun r m1 h1 => ?_)
  obtain ⟨e1, p1, f1⟩ := h1
  have hr1 := zb_CR_N hr ho f1
  refine (s_X12_name (d := 193) hr1.1 ho.1 hr1.2.2.1).mono (fun r' m2 h2 => ?_)
  obtain ⟨e2, p2, f2⟩ := h2
  exact ⟨e1.trans e2.symm, (w.1, w.2.1, (v_name w.1 w.2.2.1 a0).2, w.2.2.2.1, w.2.2.2.2.1, w.2.2.2.2.2.1, w.2.2.2.2.2.2), zb_RC_RN (zb_C_N hc ho p1 f1) ho' f2, zb_R_RN hr1 ho p2 f2, ho'⟩
theorem zb_op_nameAt {m : zb_M} {a0 : Int} (hI : zb_Inv m) : zb_Tp K_X11_nameAt 199 [(2, 1), (0, a0)] zb_E0 m (fun r => zb_Tp K_X12_nameAt 199 [(2, 500), (0, a0)] zb_E0 m (fun r' => r = r')) := by
  obtain ⟨w, hc, hr, ho⟩ := hI
  refine (s_X11_nameAt (d := 197) hc.2.2.1 ho.2.2.1).mono (fun r e1 => ?_)
  refine (s_X12_nameAt (d := 197) hr.2.2.1 ho.2.2.1).mono (fun r' e2 => ?_)
  exact e1.trans e2.symm
theorem zb_op_order {m : zb_M} {a0 : Int} (hI : zb_Inv m) : zb_Tp K_X11_order 199 [(2, 1), (0, a0)] zb_E0 m (fun r => zb_Tp K_X12_order 199 [(2, 500), (0, a0)] zb_E0 m (fun r' => r = r')) := by
  obtain ⟨w, hc, hr, ho⟩ := hI
  refine (s_X11_order (d := 197) hc.2.2.1 ho.2.2.1).mono (fun r e1 => ?_)
  refine (s_X12_order (d := 197) hr.2.2.1 ho.2.2.1).mono (fun r' e2 => ?_)
  exact e1.trans e2.symm
theorem zb_op_nodes {m : zb_M} (hI : zb_Inv m) : zb_Tp K_X11_nodes 199 [(2, 1)] zb_E0 m (fun r => zb_Tp K_X12_nodes 199 [(2, 500)] zb_E0 m (fun r' => r = r')) := by
  obtain ⟨w, hc, hr, ho⟩ := hI
  refine (s_X11_nodes (d := 198) hc.2.2.1).mono (fun r e1 => ?_)
  refine (s_X12_nodes (d := 198) hr.2.2.1).mono (fun r' e2 => ?_)
  exact e1.trans e2.symm
theorem zb_op_same {m : zb_M} {a0 a1 : Int} (hI : zb_Inv m) : zb_T K_X11_same 199 [(2, 1), (0, a0), (0, a1)] zb_E0 m (fun r m1 => zb_T K_X12_same 199 [(2, 500), (0, a0), (0, a1)] zb_E0 m1 (fun r' m2 => r = r' ∧ zb_Inv m2)) := by
  obtain ⟨w, hc, hr, ho⟩ := hI
  have ho' : zb_OW (w.1, w.2.1, w.2.2.1, (v_same w.1 w.2.2.2.1 a0 a1).2, w.2.2.2.2.1, w.2.2.2.2.2.1, w.2.2.2.2.2.2) := ⟨ho.1, ho.2.1, ho.2.2.1, v_same_ok ho.1 ho.2.2.2.1, ho.2.2.2.2.1, ho.2.2.2.2.2⟩
  refine (s_X11_same (d := 177) hc.1 ho.1 hc.2.2.2.1).mono (fun r m1 h1 => ?_)
  obtain ⟨e1, p1, f1⟩ := h1
  have hr1 := zb_CR_Sm hr ho f1
  refine (s_X12_same (d := 192) hr1.1 ho.1 hr1.2.2.2.1).mono (fun r' m2 h2 => ?_)
  obtain ⟨e2, p2, f2⟩ := h2
  exact ⟨e1.trans e2.symm, (w.1, w.2.1, w.2.2.1, (v_same w.1 w.2.2.2.1 a0 a1).2, w.2.2.2.2.1, w.2.2.2.2.2.1, w.2.2.2.2.2.2), zb_RC_RS (zb_C_Sm hc ho p1 f1) ho' f2, zb_R_RS hr1 ho p2 f2, ho'⟩
theorem zb_op_unlike {m : zb_M} {a0 a1 : Int} (hI : zb_Inv m) : zb_T K_X11_unlike 199 [(2, 1), (0, a0), (0, a1)] zb_E0 m (fun r m1 => zb_T K_X12_unlike 199 [(2, 500), (0, a0), (0, a1)] zb_E0 m1 (fun r' m2 => r = r' ∧ zb_Inv m2)) := by
  obtain ⟨w, hc, hr, ho⟩ := hI
  have ho' : zb_OW (w.1, w.2.1, w.2.2.1, w.2.2.2.1, w.2.2.2.2.1, (v_unlike w.1 w.2.2.2.2.2.1 a0 a1).2, w.2.2.2.2.2.2) := ho
  refine (s_X11_unlike (d := 176) hc.1 ho.1 hc.2.2.2.2.2.1).mono (fun r m1 h1 => ?_)
  obtain ⟨e1, p1, f1⟩ := h1
  have hr1 := zb_CR_Un hr ho f1
  refine (s_X12_unlike (d := 192) hr1.1 ho.1 hr1.2.2.2.2.2.1).mono (fun r' m2 h2 => ?_)
  obtain ⟨e2, p2, f2⟩ := h2
  exact ⟨e1.trans e2.symm, (w.1, w.2.1, w.2.2.1, w.2.2.2.1, w.2.2.2.2.1, (v_unlike w.1 w.2.2.2.2.2.1 a0 a1).2, w.2.2.2.2.2.2), zb_RC_RU (zb_C_Un hc ho p1 f1) ho' f2, zb_R_RU hr1 ho p2 f2, ho'⟩
theorem zb_op_why {m : zb_M} {a0 : Int} (hI : zb_Inv m) : zb_Tp K_X11_why 199 [(2, 1), (0, a0)] zb_E0 m (fun r => zb_Tp K_X12_why 199 [(2, 500), (0, a0)] zb_E0 m (fun r' => r = r')) := by
  obtain ⟨w, hc, hr, ho⟩ := hI
  refine (s_X11_why (d := 197) hc.2.2.2.2.2.1).mono (fun r e1 => ?_)
  refine (s_X12_why (d := 197) hr.2.2.2.2.2.1).mono (fun r' e2 => ?_)
  exact e1.trans e2.symm
theorem zb_op_turnings {m : zb_M} {a0 : Int} (hI : zb_Inv m) : zb_T K_X11_turnings 199 [(2, 1), (0, a0)] zb_E0 m (fun r m1 => zb_T K_X12_turnings 199 [(2, 500), (0, a0)] zb_E0 m1 (fun r' m2 => r = r' ∧ zb_Inv m2)) := by
  obtain ⟨w, hc, hr, ho⟩ := hI
  refine (s_X11_turnings (d := 177) hc.1 ho.1).mono (fun r m1 h1 => ?_)
  obtain ⟨e1, f1⟩ := h1
  have hr1 := zb_CR_W hr ho f1
  refine (s_X12_turnings (d := 194) hr1.1 ho.1).mono (fun r' m2 h2 => ?_)
  obtain ⟨e2, f2⟩ := h2
  exact ⟨e1.trans e2.symm, w, zb_RC_S (zb_C_W hc ho f1) ho f2, zb_R_S hr1 ho f2, ho⟩
theorem zb_op_chain {m : zb_M} {a0 a1 : Int} (hI : zb_Inv m) : zb_T K_X11_chain 199 [(2, 1), (0, a0), (0, a1)] zb_E0 m (fun r m1 => zb_T K_X12_chain 199 [(2, 500), (0, a0), (0, a1)] zb_E0 m1 (fun r' m2 => r = r' ∧ zb_Inv m2)) := by
  obtain ⟨w, hc, hr, ho⟩ := hI
  refine (s_X11_chain (d := 177) hc.1 ho.1).mono (fun r m1 h1 => ?_)
  obtain ⟨e1, f1⟩ := h1
  have hr1 := zb_CR_W hr ho f1
  refine (s_X12_chain (d := 194) hr1.1 ho.1).mono (fun r' m2 h2 => ?_)
  obtain ⟨e2, f2⟩ := h2
  exact ⟨e1.trans e2.symm, w, zb_RC_S (zb_C_W hc ho f1) ho f2, zb_R_S hr1 ho f2, ho⟩
theorem zb_op_orbit {m : zb_M} {a0 a1 : Int} (hI : zb_Inv m) : zb_T K_X11_orbit 199 [(2, 1), (0, a0), (0, a1)] zb_E0 m (fun r m1 => zb_T K_X12_orbit 199 [(2, 500), (0, a0), (0, a1)] zb_E0 m1 (fun r' m2 => r = r' ∧ zb_Inv m2)) := by
  obtain ⟨w, hc, hr, ho⟩ := hI
  refine (s_X11_orbit (d := 177) hc.1 ho.1).mono (fun r m1 h1 => ?_)
  obtain ⟨e1, f1⟩ := h1
  have hr1 := zb_CR_W hr ho f1
  refine (s_X12_orbit (d := 194) hr1.1 ho.1).mono (fun r' m2 h2 => ?_)
  obtain ⟨e2, f2⟩ := h2
  exact ⟨e1.trans e2.symm, w, zb_RC_S (zb_C_W hc ho f1) ho f2, zb_R_S hr1 ho f2, ho⟩
theorem zb_op_where {m : zb_M} {a0 a1 a2 : Int} (hI : zb_Inv m) : zb_T K_X11_where 199 [(2, 1), (0, a0), (0, a1), (0, a2)] zb_E0 m (fun r m1 => zb_T K_X12_where 199 [(2, 500), (0, a0), (0, a1), (0, a2)] zb_E0 m1 (fun r' m2 => r = r' ∧ zb_Inv m2)) := by
  obtain ⟨w, hc, hr, ho⟩ := hI
  have ho' : zb_OW (w.1, w.2.1, w.2.2.1, (v_where w.1 w.2.2.2.1 a0 a1 a2).2, w.2.2.2.2.1, w.2.2.2.2.2.1, w.2.2.2.2.2.2) := ⟨ho.1, ho.2.1, ho.2.2.1, v_where_ok ho.1 ho.2.2.2.1, ho.2.2.2.2.1, ho.2.2.2.2.2⟩
  refine (s_X11_where (d := 177) hc.1 ho.1 hc.2.2.2.1).mono (fun r m1 h1 => ?_)
  obtain ⟨e1, p1, f1⟩ := h1
  have hr1 := zb_CR_WT hr ho f1
  refine (s_X12_where (d := 194) hr1.1 ho.1 hr1.2.2.2.1).mono (fun r' m2 h2 => ?_)
  obtain ⟨e2, p2, f2⟩ := h2
  exact ⟨e1.trans e2.symm, (w.1, w.2.1, w.2.2.1, (v_where w.1 w.2.2.2.1 a0 a1 a2).2, w.2.2.2.2.1, w.2.2.2.2.2.1, w.2.2.2.2.2.2), zb_RC_ST (zb_C_WT hc ho p1 f1) ho' f2, zb_R_ST hr1 ho p2 f2, ho'⟩
theorem zb_op_by {m : zb_M} {a0 : Int} (hI : zb_Inv m) : zb_Tp K_X11_by 199 [(2, 1), (0, a0)] zb_E0 m (fun r => zb_Tp K_X12_by 199 [(2, 500), (0, a0)] zb_E0 m (fun r' => r = r')) := by
  obtain ⟨w, hc, hr, ho⟩ := hI
  refine (s_X11_by (d := 196) hc.2.2.2.1).mono (fun r e1 => ?_)
  refine (s_X12_by (d := 197) hr.2.2.2.1 ho.2.2.2.1).mono (fun r' e2 => ?_)
  exact e1.trans e2.symm
theorem zb_op_makers {m : zb_M} {a0 : Int} (hI : zb_Inv m) : zb_T K_X11_makers 199 [(2, 1), (0, a0)] zb_E0 m (fun r m1 => zb_T K_X12_makers 199 [(2, 500), (0, a0)] zb_E0 m1 (fun r' m2 => r = r' ∧ zb_Inv m2)) := by
  obtain ⟨w, hc, hr, ho⟩ := hI
  have ho' : zb_OW (w.1, w.2.1, w.2.2.1, w.2.2.2.1, (v_makers w.1 w.2.2.2.2.1 a0).2, w.2.2.2.2.2.1, w.2.2.2.2.2.2) := ⟨ho.1, ho.2.1, ho.2.2.1, ho.2.2.2.1, v_makers_ok ho.1 ho.2.2.2.2.1, ho.2.2.2.2.2⟩
  refine (s_X11_makers (d := 177) hc.1 ho.1 hc.2.2.2.2.1 ho.2.2.2.2.1).mono (fun r m1 h1 => ?_)
  obtain ⟨e1, p1, f1⟩ := h1
  have hr1 := zb_CR_WM hr ho f1
  refine (s_X12_makers (d := 194) hr1.1 ho.1 hr1.2.2.2.2.1).mono (fun r' m2 h2 => ?_)
  obtain ⟨e2, p2, f2⟩ := h2
  exact ⟨e1.trans e2.symm, (w.1, w.2.1, w.2.2.1, w.2.2.2.1, (v_makers w.1 w.2.2.2.2.1 a0).2, w.2.2.2.2.2.1, w.2.2.2.2.2.2), zb_RC_SM (zb_C_WM hc ho p1 f1) ho' f2, zb_R_SM hr1 ho p2 f2, ho'⟩
theorem zb_op_maker {m : zb_M} {a0 a1 : Int} (hI : zb_Inv m) : zb_Tp K_X11_maker 199 [(2, 1), (0, a0), (0, a1)] zb_E0 m (fun r => zb_Tp K_X12_maker 199 [(2, 500), (0, a0), (0, a1)] zb_E0 m (fun r' => r = r')) := by
  obtain ⟨w, hc, hr, ho⟩ := hI
  refine (s_X11_maker (d := 196) hc.2.2.2.2.1 ho.2.2.2.2.1).mono (fun r e1 => ?_)
  refine (s_X12_maker (d := 197) hr.2.2.2.2.1 ho.2.2.2.2.1).mono (fun r' e2 => ?_)
  exact e1.trans e2.symm
theorem zb_op_then {m : zb_M} {a0 : Int} (hI : zb_Inv m) : zb_T K_X11_then 199 [(2, 1), (0, a0)] zb_E0 m (fun r m1 => zb_T K_X12_then 199 [(2, 500), (0, a0)] zb_E0 m1 (fun r' m2 => r = r' ∧ zb_Inv m2)) := by
  obtain ⟨w, hc, hr, ho⟩ := hI
  have ho' : zb_OW (w.1, w.2.1, w.2.2.1, (v_then w.2.2.2.1 w.2.2.2.2.1 a0).2, w.2.2.2.2.1, w.2.2.2.2.2.1, w.2.2.2.2.2.2) := ⟨ho.1, ho.2.1, ho.2.2.1, v_then_ok ho.2.2.2.1 ho.2.2.2.2.1, ho.2.2.2.2.1, ho.2.2.2.2.2⟩
  refine (s_X11_then (d := 195) hc.2.2.2.1 ho.2.2.2.1 hc.2.2.2.2.1 ho.2.2.2.2.1).mono (fun r m1 h1 => ?_)
  obtain ⟨e1, p1, f1⟩ := h1
  have hr1 := zb_CR_Th hr ho f1
  refine (s_X12_then (d := 197) hr1.2.2.2.1 ho.2.2.2.1 hr1.2.2.2.2.1 ho.2.2.2.2.1).mono (fun r' m2 h2 => ?_)
  obtain ⟨e2, p2, f2⟩ := h2
  exact ⟨e1.trans e2.symm, (w.1, w.2.1, w.2.2.1, (v_then w.2.2.2.1 w.2.2.2.2.1 a0).2, w.2.2.2.2.1, w.2.2.2.2.2.1, w.2.2.2.2.2.2), zb_RC_Th (zb_C_Th hc ho p1 f1) ho' f2, zb_R_Th hr1 ho p2 f2, ho'⟩
theorem zb_op_list {m : zb_M} {a0 a1 : Int} (hI : zb_Inv m) : zb_T K_X11_list 199 [(2, 1), (0, a0), (0, a1)] zb_E0 m (fun r m1 => zb_T K_X12_list 199 [(2, 500), (0, a0), (0, a1)] zb_E0 m1 (fun r' m2 => r = r' ∧ zb_Inv m2)) := by
  obtain ⟨w, hc, hr, ho⟩ := hI
  have ho' : zb_OW (w.1, w.2.1, w.2.2.1, w.2.2.2.1, w.2.2.2.2.1, w.2.2.2.2.2.1, (v_list w.2.2.2.2.2.2 a0 a1).2) := ⟨ho.1, ho.2.1, ho.2.2.1, ho.2.2.2.1, ho.2.2.2.2.1, v_list_ok ho.2.2.2.2.2⟩
  refine (s_X11_list (d := 177) hc.2.2.2.2.2.2).mono (fun r m1 h1 => ?_)
  obtain ⟨e1, p1, f1⟩ := h1
  have hr1 := zb_CR_ML hr ho f1
  refine (s_X12_list (d := 193) hr1.2.2.2.2.2.2).mono (fun r' m2 h2 => ?_)
  obtain ⟨e2, p2, f2⟩ := h2
  exact ⟨e1.trans e2.symm, (w.1, w.2.1, w.2.2.1, w.2.2.2.1, w.2.2.2.2.1, w.2.2.2.2.2.1, (v_list w.2.2.2.2.2.2 a0 a1).2), zb_RC_RL (zb_C_ML hc ho p1 f1) ho' f2, zb_R_RL hr1 ho p2 f2, ho'⟩
theorem zb_op_listed {m : zb_M} {a0 a1 : Int} (hI : zb_Inv m) : zb_T K_X11_listed 199 [(2, 1), (0, a0), (0, a1)] zb_E0 m (fun r m1 => zb_T K_X12_listed 199 [(2, 500), (0, a0), (0, a1)] zb_E0 m1 (fun r' m2 => r = r' ∧ zb_Inv m2)) := by
  obtain ⟨w, hc, hr, ho⟩ := hI
  have ho' : zb_OW ((v_listed w.1 w.2.2.2.2.2.2 a0 a1).2, w.2.1, w.2.2.1, w.2.2.2.1, w.2.2.2.2.1, w.2.2.2.2.2.1, w.2.2.2.2.2.2) := ⟨v_listed_ok ho.1 ho.2.2.2.2.2, ho.2.1, ho.2.2.1, ho.2.2.2.1, ho.2.2.2.2.1, ho.2.2.2.2.2⟩
  refine (s_X11_listed (d := 195) hc.1 ho.1 hc.2.2.2.2.2.2 ho.2.2.2.2.2).mono (fun r m1 h1 => ?_)
  obtain ⟨e1, p1, f1⟩ := h1
  have hr1 := zb_CR_G hr ho f1
  refine (s_X12_listed (d := 195) hr1.1 ho.1 hr1.2.2.2.2.2.2 ho.2.2.2.2.2).mono (fun r' m2 h2 => ?_)
  obtain ⟨e2, p2, f2⟩ := h2
  exact ⟨e1.trans e2.symm, ((v_listed w.1 w.2.2.2.2.2.2 a0 a1).2, w.2.1, w.2.2.1, w.2.2.2.1, w.2.2.2.2.1, w.2.2.2.2.2.1, w.2.2.2.2.2.2), zb_RC_G (zb_C_G hc ho p1 f1) ho' f2, zb_R_G hr1 ho p2 f2, ho'⟩
